abbrev rm_L_root : Room := { frames := 7, cells := 1, slots := 6, locals := 111 }

set_option maxHeartbeats 4000000 in
set_option maxRecDepth 100000 in
theorem cL_root_ok (M : Mem) (a0 : Option Nat) (a1 : Int32) (a2 : Option Nat) (r0 : Mem × Int32) (h : fL_root M a0 a1 a2 = some r0) : ∀ l : Launch, l.stackTraces = false → ConW l yL_root cL_root 4 (some .int) [(0, 9, 12, 15)] rm_L_root [rf a0, .int a1, rf a2] M (r0.1, Sum.inr (some (Value.int r0.2))) := by
  intro l hst
  refine ConW.enter hst (own := RL) (by decide +kernel) rfl (by exact Nat.le_of_ble_eq_true rfl) (lv0 := [(0, rf a0), (1, .int a1), (2, rf a2)]) (rfl) (fun C hC htab => ?_)
  unfold fL_root at h
  refine J_aload_n (j := 2) hC dL_root_0 rfl ?_
  refine J_iconst (v := 0) hC dL_root_1 (by decide) ?_
  refine J_aload_n (j := 0) hC dL_root_2 rfl ?_
  refine J_iload_n (j := 1) hC dL_root_3 rfl ?_
  refine ck_c h (fun ho h => ?_)
  refine bnd_c h (fun w1 hw h => ?_)
  refine thrE_c h (fun E hE h => ?_) (fun v2 hv h => ?_)
  · refine ite_c h (fun c9 h => ?_) (fun c9 h => ?_)
    · subst c9
      refine J_catchV (E := "java/lang/IllegalArgumentException") (name := "java/lang/IllegalArgumentException") (hh := [(0, 9, 12, 15)]) (As := [.int a1]) (M' := w1.1) (st := [.int 0, rf a2]) [] (0, 9, 12, 15) [] hC htab rfl (fun z hz => absurd hz List.not_mem_nil) (by decide) (by decide) k_L_15 (fun U h => h.1.1) (fun l hl => by have h9 := cX2_root_ok M a0 a1 _ hw l hl; rw [hE] at h9; exact h9) vm_X2_root k_L_24 ho ⟨rfl, rfl⟩ rfl ⟨Nat.le_of_ble_eq_true rfl, Nat.le_of_ble_eq_true rfl⟩ (Nat.le_of_ble_eq_true rfl) ⟨Nat.le_of_ble_eq_true rfl, Nat.le_of_ble_eq_true rfl⟩ dL_root_4 rfl (fun q => ?_)
      refine J_astoreQ_n (i := 3) (lv' := [(3, .ref q), (0, rf a0), (1, .int a1), (2, rf a2)]) rfl hC dL_root_12 (by decide) rfl ?_
      refine J_iconst (v := 1) hC dL_root_13 (by decide) ?_
      exact J_iret hC dL_root_14 (by have h9 := Option.some.inj h; subst h9; rfl) (Nat.le_of_ble_eq_true rfl) (Nat.le_of_ble_eq_true rfl)
    · cases h
  · refine J_callVX (As := [.int a1]) (M' := w1.1) (rv := some (Value.int v2)) (st := [.int 0, rf a2]) hC (fun l hl => by have h9 := cX2_root_ok M a0 a1 _ hw l hl; rw [hv] at h9; exact h9) vm_X2_root k_L_24 ho ⟨rfl, rfl⟩ rfl ⟨Nat.le_of_ble_eq_true rfl, Nat.le_of_ble_eq_true rfl⟩ (Nat.le_of_ble_eq_true rfl) ⟨Nat.le_of_ble_eq_true rfl, Nat.le_of_ble_eq_true rfl⟩ dL_root_4 rfl ?_
    refine J_i2l hC dL_root_7 ?_
    refine J_last hC dL_root_8 h (fun M3 _ h => ?_)
    refine J_goto (tgt := 15) hC dL_root_9 (by decide) ?_
    refine J_iconst (v := 0) hC dL_root_15 (by decide) ?_
    exact J_iret hC dL_root_16 (by have h9 := Option.some.inj h; subst h9; rfl) (Nat.le_of_ble_eq_true rfl) (Nat.le_of_ble_eq_true rfl)
abbrev rm_L_lower : Room := { frames := 8, cells := 1, slots := 6, locals := 133 }

set_option maxHeartbeats 4000000 in
set_option maxRecDepth 100000 in
theorem cL_lower_ok (M : Mem) (a0 : Option Nat) (a1 : Int32) (a2 : Option Nat) (r0 : Mem × Int32) (h : fL_lower M a0 a1 a2 = some r0) : ∀ l : Launch, l.stackTraces = false → ConW l yL_lower cL_lower 4 (some .int) [(0, 9, 12, 13)] rm_L_lower [rf a0, .int a1, rf a2] M (r0.1, Sum.inr (some (Value.int r0.2))) := by
  intro l hst
  refine ConW.enter hst (own := RL) (by decide +kernel) rfl (by exact Nat.le_of_ble_eq_true rfl) (lv0 := [(0, rf a0), (1, .int a1), (2, rf a2)]) (rfl) (fun C hC htab => ?_)
  unfold fL_lower at h
  refine J_aload_n (j := 2) hC dL_lower_0 rfl ?_
  refine J_iconst (v := 0) hC dL_lower_1 (by decide) ?_
  refine J_aload_n (j := 0) hC dL_lower_2 rfl ?_
  refine J_iload_n (j := 1) hC dL_lower_3 rfl ?_
  refine ck_c h (fun ho h => ?_)
  refine bnd_c h (fun w1 hw h => ?_)
  refine thrE_c h (fun E hE h => ?_) (fun v2 hv h => ?_)
  · refine ite_c h (fun c9 h => ?_) (fun c9 h => ?_)
    · subst c9
      refine J_catchV (E := "java/lang/IndexOutOfBoundsException") (name := "java/lang/IndexOutOfBoundsException") (hh := [(0, 9, 12, 13)]) (As := [.int a1]) (M' := w1.1) (st := [.int 0, rf a2]) [] (0, 9, 12, 13) [] hC htab rfl (fun z hz => absurd hz List.not_mem_nil) (by decide) (by decide) k_L_13 (fun U h => h.1.2.1) (fun l hl => by have h9 := cX2_lower_ok M a0 a1 _ hw l hl; rw [hE] at h9; exact h9) vm_X2_lower k_L_28 ho ⟨rfl, rfl⟩ rfl ⟨Nat.le_of_ble_eq_true rfl, Nat.le_of_ble_eq_true rfl⟩ (Nat.le_of_ble_eq_true rfl) ⟨Nat.le_of_ble_eq_true rfl, Nat.le_of_ble_eq_true rfl⟩ dL_lower_4 rfl (fun q => ?_)
      refine J_astoreQ_n (i := 3) (lv' := [(3, .ref q), (0, rf a0), (1, .int a1), (2, rf a2)]) rfl hC dL_lower_12 (by decide) rfl ?_
      refine J_iconst (v := 1) hC dL_lower_13 (by decide) ?_
      exact J_iret hC dL_lower_14 (by have h9 := Option.some.inj h; subst h9; rfl) (Nat.le_of_ble_eq_true rfl) (Nat.le_of_ble_eq_true rfl)
    · cases h
  · refine J_callVX (As := [.int a1]) (M' := w1.1) (rv := some (Value.int v2)) (st := [.int 0, rf a2]) hC (fun l hl => by have h9 := cX2_lower_ok M a0 a1 _ hw l hl; rw [hv] at h9; exact h9) vm_X2_lower k_L_28 ho ⟨rfl, rfl⟩ rfl ⟨Nat.le_of_ble_eq_true rfl, Nat.le_of_ble_eq_true rfl⟩ (Nat.le_of_ble_eq_true rfl) ⟨Nat.le_of_ble_eq_true rfl, Nat.le_of_ble_eq_true rfl⟩ dL_lower_4 rfl ?_
    refine J_i2l hC dL_lower_7 ?_
    refine J_last hC dL_lower_8 h (fun M3 _ h => ?_)
    refine J_goto (tgt := 15) hC dL_lower_9 (by decide) ?_
    refine J_iconst (v := 0) hC dL_lower_15 (by decide) ?_
    exact J_iret hC dL_lower_16 (by have h9 := Option.some.inj h; subst h9; rfl) (Nat.le_of_ble_eq_true rfl) (Nat.le_of_ble_eq_true rfl)
abbrev rm_L_append : Room := { frames := 7, cells := 1, slots := 6, locals := 111 }

set_option maxHeartbeats 4000000 in
set_option maxRecDepth 100000 in
theorem cL_append_ok (M : Mem) (a0 : Option Nat) (a1 : Int32) (a2 : Option Nat) (r0 : Mem × Int32) (h : fL_append M a0 a1 a2 = some r0) : ∀ l : Launch, l.stackTraces = false → ConW l yL_append cL_append 4 (some .int) [(0, 9, 12, 15), (0, 9, 15, 34)] rm_L_append [rf a0, .int a1, rf a2] M (r0.1, Sum.inr (some (Value.int r0.2))) := by
  intro l hst
  refine ConW.enter hst (own := RL) (by decide +kernel) rfl (by exact Nat.le_of_ble_eq_true rfl) (lv0 := [(0, rf a0), (1, .int a1), (2, rf a2)]) (rfl) (fun C hC htab => ?_)
  unfold fL_append at h
  refine J_aload_n (j := 2) hC dL_append_0 rfl ?_
  refine J_iconst (v := 0) hC dL_append_1 (by decide) ?_
  refine J_aload_n (j := 0) hC dL_append_2 rfl ?_
  refine J_iload_n (j := 1) hC dL_append_3 rfl ?_
  refine ck_c h (fun ho h => ?_)
  refine bnd_c h (fun w1 hw h => ?_)
  refine thrE_c h (fun E hE h => ?_) (fun v2 hv h => ?_)
  · refine ite_c h (fun c9 h => ?_) (fun c9 h => ?_)
    · subst c9
      refine J_catchV (E := "java/lang/IllegalArgumentException") (name := "java/lang/IllegalArgumentException") (hh := [(0, 9, 12, 15), (0, 9, 15, 34)]) (As := [.int a1]) (M' := w1.1) (st := [.int 0, rf a2]) [] (0, 9, 12, 15) [(0, 9, 15, 34)] hC htab rfl (fun z hz => absurd hz List.not_mem_nil) (by decide) (by decide) k_L_15 (fun U h => h.1.1) (fun l hl => by have h9 := cX2_append_ok M a0 a1 _ hw l hl; rw [hE] at h9; exact h9) vm_X2_append k_L_31 ho ⟨rfl, rfl⟩ rfl ⟨Nat.le_of_ble_eq_true rfl, Nat.le_of_ble_eq_true rfl⟩ (Nat.le_of_ble_eq_true rfl) ⟨Nat.le_of_ble_eq_true rfl, Nat.le_of_ble_eq_true rfl⟩ dL_append_4 rfl (fun q => ?_)
      refine J_astoreQ_n (i := 3) (lv' := [(3, .ref q), (0, rf a0), (1, .int a1), (2, rf a2)]) rfl hC dL_append_12 (by decide) rfl ?_
      refine J_iconst (v := 1) hC dL_append_13 (by decide) ?_
      exact J_iret hC dL_append_14 (by have h9 := Option.some.inj h; subst h9; rfl) (Nat.le_of_ble_eq_true rfl) (Nat.le_of_ble_eq_true rfl)
    · refine ite_c h (fun c9 h => ?_) (fun c9 h => ?_)
      · subst c9
        refine J_catchV (E := "java/lang/IllegalStateException") (name := "java/lang/IllegalStateException") (hh := [(0, 9, 12, 15), (0, 9, 15, 34)]) (As := [.int a1]) (M' := w1.1) (st := [.int 0, rf a2]) [(0, 9, 12, 15)] (0, 9, 15, 34) [] hC htab rfl (fun z hz => by rw [List.mem_singleton.mp hz]; exact ⟨by decide, "java/lang/IllegalArgumentException", k_L_15, fun U h => h.2⟩) (by decide) (by decide) k_L_34 (fun U h => h.1.2.2) (fun l hl => by have h9 := cX2_append_ok M a0 a1 _ hw l hl; rw [hE] at h9; exact h9) vm_X2_append k_L_31 ho ⟨rfl, rfl⟩ rfl ⟨Nat.le_of_ble_eq_true rfl, Nat.le_of_ble_eq_true rfl⟩ (Nat.le_of_ble_eq_true rfl) ⟨Nat.le_of_ble_eq_true rfl, Nat.le_of_ble_eq_true rfl⟩ dL_append_4 rfl (fun q => ?_)
        refine J_astoreQ_n (i := 3) (lv' := [(3, .ref q), (0, rf a0), (1, .int a1), (2, rf a2)]) rfl hC dL_append_15 (by decide) rfl ?_
        refine J_iconst (v := 2) hC dL_append_16 (by decide) ?_
        exact J_iret hC dL_append_17 (by have h9 := Option.some.inj h; subst h9; rfl) (Nat.le_of_ble_eq_true rfl) (Nat.le_of_ble_eq_true rfl)
      · cases h
  · refine J_callVX (As := [.int a1]) (M' := w1.1) (rv := some (Value.int v2)) (st := [.int 0, rf a2]) hC (fun l hl => by have h9 := cX2_append_ok M a0 a1 _ hw l hl; rw [hv] at h9; exact h9) vm_X2_append k_L_31 ho ⟨rfl, rfl⟩ rfl ⟨Nat.le_of_ble_eq_true rfl, Nat.le_of_ble_eq_true rfl⟩ (Nat.le_of_ble_eq_true rfl) ⟨Nat.le_of_ble_eq_true rfl, Nat.le_of_ble_eq_true rfl⟩ dL_append_4 rfl ?_
    refine J_i2l hC dL_append_7 ?_
    refine J_last hC dL_append_8 h (fun M3 _ h => ?_)
    refine J_goto (tgt := 18) hC dL_append_9 (by decide) ?_
    refine J_iconst (v := 0) hC dL_append_18 (by decide) ?_
    exact J_iret hC dL_append_19 (by have h9 := Option.some.inj h; subst h9; rfl) (Nat.le_of_ble_eq_true rfl) (Nat.le_of_ble_eq_true rfl)
abbrev rm_L_load : Room := { frames := 8, cells := 2, slots := 12, locals := 133 }

set_option maxHeartbeats 4000000 in
set_option maxRecDepth 100000 in
theorem cL_load_ok (M : Mem) (a0 : Option Nat) (a1 : Int32) (a2 : Option Nat) (r0 : Mem × Int32) (h : fL_load M a0 a1 a2 = some r0) : ∀ l : Launch, l.stackTraces = false → ConW l yL_load cL_load 4 (some .int) [(0, 9, 12, 13), (0, 9, 15, 15)] rm_L_load [rf a0, .int a1, rf a2] M (r0.1, Sum.inr (some (Value.int r0.2))) := by
  intro l hst
  refine ConW.enter hst (own := RL) (by decide +kernel) rfl (by exact Nat.le_of_ble_eq_true rfl) (lv0 := [(0, rf a0), (1, .int a1), (2, rf a2)]) (rfl) (fun C hC htab => ?_)
  unfold fL_load at h
  refine J_aload_n (j := 2) hC dL_load_0 rfl ?_
  refine J_iconst (v := 0) hC dL_load_1 (by decide) ?_
  refine J_aload_n (j := 0) hC dL_load_2 rfl ?_
  refine J_iload_n (j := 1) hC dL_load_3 rfl ?_
  refine ck_c h (fun ho h => ?_)
  refine bnd_c h (fun w1 hw h => ?_)
  refine thrE_c h (fun E hE h => ?_) (fun v2 hv h => ?_)
  · refine ite_c h (fun c9 h => ?_) (fun c9 h => ?_)
    · subst c9
      refine J_catchV (E := "java/lang/IndexOutOfBoundsException") (name := "java/lang/IndexOutOfBoundsException") (hh := [(0, 9, 12, 13), (0, 9, 15, 15)]) (As := [.int a1]) (M' := w1.1) (st := [.int 0, rf a2]) [] (0, 9, 12, 13) [(0, 9, 15, 15)] hC htab rfl (fun z hz => absurd hz List.not_mem_nil) (by decide) (by decide) k_L_13 (fun U h => h.1.2.1) (fun l hl => by have h9 := cX2_load_ok M a0 a1 _ hw l hl; rw [hE] at h9; exact h9) vm_X2_load k_L_36 ho ⟨rfl, rfl⟩ rfl ⟨Nat.le_of_ble_eq_true rfl, Nat.le_of_ble_eq_true rfl⟩ (Nat.le_of_ble_eq_true rfl) ⟨Nat.le_of_ble_eq_true rfl, Nat.le_of_ble_eq_true rfl⟩ dL_load_4 rfl (fun q => ?_)
      refine J_astoreQ_n (i := 3) (lv' := [(3, .ref q), (0, rf a0), (1, .int a1), (2, rf a2)]) rfl hC dL_load_12 (by decide) rfl ?_
      refine J_iconst (v := 1) hC dL_load_13 (by decide) ?_
      exact J_iret hC dL_load_14 (by have h9 := Option.some.inj h; subst h9; rfl) (Nat.le_of_ble_eq_true rfl) (Nat.le_of_ble_eq_true rfl)
    · refine ite_c h (fun c9 h => ?_) (fun c9 h => ?_)
      · subst c9
        refine J_catchV (E := "java/lang/IllegalArgumentException") (name := "java/lang/IllegalArgumentException") (hh := [(0, 9, 12, 13), (0, 9, 15, 15)]) (As := [.int a1]) (M' := w1.1) (st := [.int 0, rf a2]) [(0, 9, 12, 13)] (0, 9, 15, 15) [] hC htab rfl (fun z hz => by rw [List.mem_singleton.mp hz]; exact ⟨by decide, "java/lang/IndexOutOfBoundsException", k_L_13, fun U h => h.1⟩) (by decide) (by decide) k_L_15 (fun U h => h.1.1) (fun l hl => by have h9 := cX2_load_ok M a0 a1 _ hw l hl; rw [hE] at h9; exact h9) vm_X2_load k_L_36 ho ⟨rfl, rfl⟩ rfl ⟨Nat.le_of_ble_eq_true rfl, Nat.le_of_ble_eq_true rfl⟩ (Nat.le_of_ble_eq_true rfl) ⟨Nat.le_of_ble_eq_true rfl, Nat.le_of_ble_eq_true rfl⟩ dL_load_4 rfl (fun q => ?_)
        refine J_astoreQ_n (i := 3) (lv' := [(3, .ref q), (0, rf a0), (1, .int a1), (2, rf a2)]) rfl hC dL_load_15 (by decide) rfl ?_
        refine J_iconst (v := 2) hC dL_load_16 (by decide) ?_
        exact J_iret hC dL_load_17 (by have h9 := Option.some.inj h; subst h9; rfl) (Nat.le_of_ble_eq_true rfl) (Nat.le_of_ble_eq_true rfl)
      · cases h
  · refine J_callVX (As := [.int a1]) (M' := w1.1) (rv := some (Value.int v2)) (st := [.int 0, rf a2]) hC (fun l hl => by have h9 := cX2_load_ok M a0 a1 _ hw l hl; rw [hv] at h9; exact h9) vm_X2_load k_L_36 ho ⟨rfl, rfl⟩ rfl ⟨Nat.le_of_ble_eq_true rfl, Nat.le_of_ble_eq_true rfl⟩ (Nat.le_of_ble_eq_true rfl) ⟨Nat.le_of_ble_eq_true rfl, Nat.le_of_ble_eq_true rfl⟩ dL_load_4 rfl ?_
    refine J_i2l hC dL_load_7 ?_
    refine J_last hC dL_load_8 h (fun M3 _ h => ?_)
    refine J_goto (tgt := 18) hC dL_load_9 (by decide) ?_
    refine J_iconst (v := 0) hC dL_load_18 (by decide) ?_
    exact J_iret hC dL_load_19 (by have h9 := Option.some.inj h; subst h9; rfl) (Nat.le_of_ble_eq_true rfl) (Nat.le_of_ble_eq_true rfl)
abbrev rm_L_keep : Room := { frames := 8, cells := 1, slots := 6, locals := 131 }

set_option maxHeartbeats 4000000 in
set_option maxRecDepth 100000 in
theorem cL_keep_ok (M : Mem) (a0 : Option Nat) (a1 : Int32) (a2 : Option Nat) (r0 : Mem × Int32) (h : fL_keep M a0 a1 a2 = some r0) : ∀ l : Launch, l.stackTraces = false → ConW l yL_keep cL_keep 4 (some .int) [(0, 9, 12, 15)] rm_L_keep [rf a0, .int a1, rf a2] M (r0.1, Sum.inr (some (Value.int r0.2))) := by
  intro l hst
  refine ConW.enter hst (own := RL) (by decide +kernel) rfl (by exact Nat.le_of_ble_eq_true rfl) (lv0 := [(0, rf a0), (1, .int a1), (2, rf a2)]) (rfl) (fun C hC htab => ?_)
  unfold fL_keep at h
  refine J_aload_n (j := 2) hC dL_keep_0 rfl ?_
  refine J_iconst (v := 0) hC dL_keep_1 (by decide) ?_
  refine J_aload_n (j := 0) hC dL_keep_2 rfl ?_
  refine J_iload_n (j := 1) hC dL_keep_3 rfl ?_
  refine ck_c h (fun ho h => ?_)
  refine bnd_c h (fun w1 hw h => ?_)
  refine thrE_c h (fun E hE h => ?_) (fun v2 hv h => ?_)
  · refine ite_c h (fun c9 h => ?_) (fun c9 h => ?_)
    · subst c9
      refine J_catchV (E := "java/lang/IllegalArgumentException") (name := "java/lang/IllegalArgumentException") (hh := [(0, 9, 12, 15)]) (As := [.int a1]) (M' := w1.1) (st := [.int 0, rf a2]) [] (0, 9, 12, 15) [] hC htab rfl (fun z hz => absurd hz List.not_mem_nil) (by decide) (by decide) k_L_15 (fun U h => h.1.1) (fun l hl => by have h9 := cX2_keep_ok M a0 a1 _ hw l hl; rw [hE] at h9; exact h9) vm_X2_keep k_L_39 ho ⟨rfl, rfl⟩ rfl ⟨Nat.le_of_ble_eq_true rfl, Nat.le_of_ble_eq_true rfl⟩ (Nat.le_of_ble_eq_true rfl) ⟨Nat.le_of_ble_eq_true rfl, Nat.le_of_ble_eq_true rfl⟩ dL_keep_4 rfl (fun q => ?_)
      refine J_astoreQ_n (i := 3) (lv' := [(3, .ref q), (0, rf a0), (1, .int a1), (2, rf a2)]) rfl hC dL_keep_12 (by decide) rfl ?_
      refine J_iconst (v := 1) hC dL_keep_13 (by decide) ?_
      exact J_iret hC dL_keep_14 (by have h9 := Option.some.inj h; subst h9; rfl) (Nat.le_of_ble_eq_true rfl) (Nat.le_of_ble_eq_true rfl)
    · cases h
  · refine J_callVX (As := [.int a1]) (M' := w1.1) (rv := some (Value.int v2)) (st := [.int 0, rf a2]) hC (fun l hl => by have h9 := cX2_keep_ok M a0 a1 _ hw l hl; rw [hv] at h9; exact h9) vm_X2_keep k_L_39 ho ⟨rfl, rfl⟩ rfl ⟨Nat.le_of_ble_eq_true rfl, Nat.le_of_ble_eq_true rfl⟩ (Nat.le_of_ble_eq_true rfl) ⟨Nat.le_of_ble_eq_true rfl, Nat.le_of_ble_eq_true rfl⟩ dL_keep_4 rfl ?_
    refine J_i2l hC dL_keep_7 ?_
    refine J_last hC dL_keep_8 h (fun M3 _ h => ?_)
    refine J_goto (tgt := 15) hC dL_keep_9 (by decide) ?_
    refine J_iconst (v := 0) hC dL_keep_15 (by decide) ?_
    exact J_iret hC dL_keep_16 (by have h9 := Option.some.inj h; subst h9; rfl) (Nat.le_of_ble_eq_true rfl) (Nat.le_of_ble_eq_true rfl)
abbrev rm_L_goBack : Room := { frames := 8, cells := 2, slots := 12, locals := 131 }

set_option maxHeartbeats 4000000 in
set_option maxRecDepth 100000 in
theorem cL_goBack_ok (M : Mem) (a0 : Option Nat) (a1 : Int32) (a2 : Option Nat) (r0 : Mem × Int32) (h : fL_goBack M a0 a1 a2 = some r0) : ∀ l : Launch, l.stackTraces = false → ConW l yL_goBack cL_goBack 4 (some .int) [(0, 9, 12, 15), (0, 9, 15, 34)] rm_L_goBack [rf a0, .int a1, rf a2] M (r0.1, Sum.inr (some (Value.int r0.2))) := by
  intro l hst
  refine ConW.enter hst (own := RL) (by decide +kernel) rfl (by exact Nat.le_of_ble_eq_true rfl) (lv0 := [(0, rf a0), (1, .int a1), (2, rf a2)]) (rfl) (fun C hC htab => ?_)
  unfold fL_goBack at h
  refine J_aload_n (j := 2) hC dL_goBack_0 rfl ?_
  refine J_iconst (v := 0) hC dL_goBack_1 (by decide) ?_
  refine J_aload_n (j := 0) hC dL_goBack_2 rfl ?_
  refine J_iload_n (j := 1) hC dL_goBack_3 rfl ?_
  refine ck_c h (fun ho h => ?_)
  refine bnd_c h (fun w1 hw h => ?_)
  refine thrE_c h (fun E hE h => ?_) (fun v2 hv h => ?_)
  · refine ite_c h (fun c9 h => ?_) (fun c9 h => ?_)
    · subst c9
      refine J_catchV (E := "java/lang/IllegalArgumentException") (name := "java/lang/IllegalArgumentException") (hh := [(0, 9, 12, 15), (0, 9, 15, 34)]) (As := [.int a1]) (M' := w1.1) (st := [.int 0, rf a2]) [] (0, 9, 12, 15) [(0, 9, 15, 34)] hC htab rfl (fun z hz => absurd hz List.not_mem_nil) (by decide) (by decide) k_L_15 (fun U h => h.1.1) (fun l hl => by have h9 := cX2_goBack_ok M a0 a1 _ hw l hl; rw [hE] at h9; exact h9) vm_X2_goBack k_L_42 ho ⟨rfl, rfl⟩ rfl ⟨Nat.le_of_ble_eq_true rfl, Nat.le_of_ble_eq_true rfl⟩ (Nat.le_of_ble_eq_true rfl) ⟨Nat.le_of_ble_eq_true rfl, Nat.le_of_ble_eq_true rfl⟩ dL_goBack_4 rfl (fun q => ?_)
      refine J_astoreQ_n (i := 3) (lv' := [(3, .ref q), (0, rf a0), (1, .int a1), (2, rf a2)]) rfl hC dL_goBack_12 (by decide) rfl ?_
      refine J_iconst (v := 1) hC dL_goBack_13 (by decide) ?_
      exact J_iret hC dL_goBack_14 (by have h9 := Option.some.inj h; subst h9; rfl) (Nat.le_of_ble_eq_true rfl) (Nat.le_of_ble_eq_true rfl)
    · refine ite_c h (fun c9 h => ?_) (fun c9 h => ?_)
      · subst c9
        refine J_catchV (E := "java/lang/IllegalStateException") (name := "java/lang/IllegalStateException") (hh := [(0, 9, 12, 15), (0, 9, 15, 34)]) (As := [.int a1]) (M' := w1.1) (st := [.int 0, rf a2]) [(0, 9, 12, 15)] (0, 9, 15, 34) [] hC htab rfl (fun z hz => by rw [List.mem_singleton.mp hz]; exact ⟨by decide, "java/lang/IllegalArgumentException", k_L_15, fun U h => h.2⟩) (by decide) (by decide) k_L_34 (fun U h => h.1.2.2) (fun l hl => by have h9 := cX2_goBack_ok M a0 a1 _ hw l hl; rw [hE] at h9; exact h9) vm_X2_goBack k_L_42 ho ⟨rfl, rfl⟩ rfl ⟨Nat.le_of_ble_eq_true rfl, Nat.le_of_ble_eq_true rfl⟩ (Nat.le_of_ble_eq_true rfl) ⟨Nat.le_of_ble_eq_true rfl, Nat.le_of_ble_eq_true rfl⟩ dL_goBack_4 rfl (fun q => ?_)
        refine J_astoreQ_n (i := 3) (lv' := [(3, .ref q), (0, rf a0), (1, .int a1), (2, rf a2)]) rfl hC dL_goBack_15 (by decide) rfl ?_
        refine J_iconst (v := 2) hC dL_goBack_16 (by decide) ?_
        exact J_iret hC dL_goBack_17 (by have h9 := Option.some.inj h; subst h9; rfl) (Nat.le_of_ble_eq_true rfl) (Nat.le_of_ble_eq_true rfl)
      · cases h
  · refine J_callVX (As := [.int a1]) (M' := w1.1) (rv := some (Value.int v2)) (st := [.int 0, rf a2]) hC (fun l hl => by have h9 := cX2_goBack_ok M a0 a1 _ hw l hl; rw [hv] at h9; exact h9) vm_X2_goBack k_L_42 ho ⟨rfl, rfl⟩ rfl ⟨Nat.le_of_ble_eq_true rfl, Nat.le_of_ble_eq_true rfl⟩ (Nat.le_of_ble_eq_true rfl) ⟨Nat.le_of_ble_eq_true rfl, Nat.le_of_ble_eq_true rfl⟩ dL_goBack_4 rfl ?_
    refine J_i2l hC dL_goBack_7 ?_
    refine J_last hC dL_goBack_8 h (fun M3 _ h => ?_)
    refine J_goto (tgt := 18) hC dL_goBack_9 (by decide) ?_
    refine J_iconst (v := 0) hC dL_goBack_18 (by decide) ?_
    exact J_iret hC dL_goBack_19 (by have h9 := Option.some.inj h; subst h9; rfl) (Nat.le_of_ble_eq_true rfl) (Nat.le_of_ble_eq_true rfl)
abbrev rm_L_undo : Room := { frames := 7, cells := 1, slots := 6, locals := 110 }

set_option maxHeartbeats 4000000 in
set_option maxRecDepth 100000 in
theorem cL_undo_ok (M : Mem) (a0 : Option Nat) (a1 : Option Nat) (r0 : Mem × Int32) (h : fL_undo M a0 a1 = some r0) : ∀ l : Launch, l.stackTraces = false → ConW l yL_undo cL_undo 3 (some .int) [(0, 8, 11, 34)] rm_L_undo [rf a0, rf a1] M (r0.1, Sum.inr (some (Value.int r0.2))) := by
  intro l hst
  refine ConW.enter hst (own := RL) (by decide +kernel) rfl (by exact Nat.le_of_ble_eq_true rfl) (lv0 := [(0, rf a0), (1, rf a1)]) (rfl) (fun C hC htab => ?_)
  unfold fL_undo at h
  refine J_aload_n (j := 1) hC dL_undo_0 rfl ?_
  refine J_iconst (v := 0) hC dL_undo_1 (by decide) ?_
  refine J_aload_n (j := 0) hC dL_undo_2 rfl ?_
  refine ck_c h (fun ho h => ?_)
  refine bnd_c h (fun w1 hw h => ?_)
  refine thrE_c h (fun E hE h => ?_) (fun v2 hv h => ?_)
  · refine ite_c h (fun c9 h => ?_) (fun c9 h => ?_)
    · subst c9
      refine J_catchV (E := "java/lang/IllegalStateException") (name := "java/lang/IllegalStateException") (hh := [(0, 8, 11, 34)]) (As := []) (M' := w1.1) (st := [.int 0, rf a1]) [] (0, 8, 11, 34) [] hC htab rfl (fun z hz => absurd hz List.not_mem_nil) (by decide) (by decide) k_L_34 (fun U h => h.1.2.2) (fun l hl => by have h9 := cX2_undo_ok M a0 _ hw l hl; rw [hE] at h9; exact h9) vm_X2_undo k_L_45 ho ⟨rfl, rfl⟩ rfl ⟨Nat.le_of_ble_eq_true rfl, Nat.le_of_ble_eq_true rfl⟩ (Nat.le_of_ble_eq_true rfl) ⟨Nat.le_of_ble_eq_true rfl, Nat.le_of_ble_eq_true rfl⟩ dL_undo_3 rfl (fun q => ?_)
      refine J_astoreQ_n (i := 2) (lv' := [(2, .ref q), (0, rf a0), (1, rf a1)]) rfl hC dL_undo_11 (by decide) rfl ?_
      refine J_iconst (v := 1) hC dL_undo_12 (by decide) ?_
      exact J_iret hC dL_undo_13 (by have h9 := Option.some.inj h; subst h9; rfl) (Nat.le_of_ble_eq_true rfl) (Nat.le_of_ble_eq_true rfl)
    · cases h
  · refine J_callVX (As := []) (M' := w1.1) (rv := some (Value.int v2)) (st := [.int 0, rf a1]) hC (fun l hl => by have h9 := cX2_undo_ok M a0 _ hw l hl; rw [hv] at h9; exact h9) vm_X2_undo k_L_45 ho ⟨rfl, rfl⟩ rfl ⟨Nat.le_of_ble_eq_true rfl, Nat.le_of_ble_eq_true rfl⟩ (Nat.le_of_ble_eq_true rfl) ⟨Nat.le_of_ble_eq_true rfl, Nat.le_of_ble_eq_true rfl⟩ dL_undo_3 rfl ?_
    refine J_i2l hC dL_undo_6 ?_
    refine J_last hC dL_undo_7 h (fun M3 _ h => ?_)
    refine J_goto (tgt := 14) hC dL_undo_8 (by decide) ?_
    refine J_iconst (v := 0) hC dL_undo_14 (by decide) ?_
    exact J_iret hC dL_undo_15 (by have h9 := Option.some.inj h; subst h9; rfl) (Nat.le_of_ble_eq_true rfl) (Nat.le_of_ble_eq_true rfl)
abbrev rm_L_sign : Room := { frames := 8, cells := 2, slots := 12, locals := 132 }

set_option maxHeartbeats 4000000 in
set_option maxRecDepth 100000 in
theorem cL_sign_ok (M : Mem) (a0 : Option Nat) (a1 : Int32) (a2 : Int32) (a3 : Option Nat) (r0 : Mem × Int32) (h : fL_sign M a0 a1 a2 a3 = some r0) : ∀ l : Launch, l.stackTraces = false → ConW l yL_sign cL_sign 5 (some .int) [(0, 10, 13, 13), (0, 10, 17, 15)] rm_L_sign [rf a0, .int a1, .int a2, rf a3] M (r0.1, Sum.inr (some (Value.int r0.2))) := by
  intro l hst
  refine ConW.enter hst (own := RL) (by decide +kernel) rfl (by exact Nat.le_of_ble_eq_true rfl) (lv0 := [(0, rf a0), (1, .int a1), (2, .int a2), (3, rf a3)]) (rfl) (fun C hC htab => ?_)
  unfold fL_sign at h
  refine J_aload_n (j := 3) hC dL_sign_0 rfl ?_
  refine J_iconst (v := 0) hC dL_sign_1 (by decide) ?_
  refine J_aload_n (j := 0) hC dL_sign_2 rfl ?_
  refine J_iload_n (j := 1) hC dL_sign_3 rfl ?_
  refine J_iload_n (j := 2) hC dL_sign_4 rfl ?_
  refine ck_c h (fun ho h => ?_)
  refine bnd_c h (fun w1 hw h => ?_)
  refine thrE_c h (fun E hE h => ?_) (fun v2 hv h => ?_)
  · refine ite_c h (fun c9 h => ?_) (fun c9 h => ?_)
    · subst c9
      refine J_catchV (E := "java/lang/IndexOutOfBoundsException") (name := "java/lang/IndexOutOfBoundsException") (hh := [(0, 10, 13, 13), (0, 10, 17, 15)]) (As := [.int a1, .int a2]) (M' := M) (st := [.int 0, rf a3]) [] (0, 10, 13, 13) [(0, 10, 17, 15)] hC htab rfl (fun z hz => absurd hz List.not_mem_nil) (by decide) (by decide) k_L_13 (fun U h => h.1.2.1) (fun l hl => by have h9 := cX2_sign_ok M a0 a1 a2 _ hw l hl; rw [hE] at h9; exact h9) vm_X2_sign k_L_49 ho ⟨rfl, rfl⟩ rfl ⟨Nat.le_of_ble_eq_true rfl, Nat.le_of_ble_eq_true rfl⟩ (Nat.le_of_ble_eq_true rfl) ⟨Nat.le_of_ble_eq_true rfl, Nat.le_of_ble_eq_true rfl⟩ dL_sign_5 rfl (fun q => ?_)
      refine J_astoreQ (lv' := [(4, .ref q), (0, rf a0), (1, .int a1), (2, .int a2), (3, rf a3)]) hC dL_sign_13 (by decide) rfl ?_
      refine J_iconst (v := 1) hC dL_sign_15 (by decide) ?_
      exact J_iret hC dL_sign_16 (by have h9 := Option.some.inj h; subst h9; rfl) (Nat.le_of_ble_eq_true rfl) (Nat.le_of_ble_eq_true rfl)
    · refine ite_c h (fun c9 h => ?_) (fun c9 h => ?_)
      · subst c9
        refine J_catchV (E := "java/lang/IllegalArgumentException") (name := "java/lang/IllegalArgumentException") (hh := [(0, 10, 13, 13), (0, 10, 17, 15)]) (As := [.int a1, .int a2]) (M' := M) (st := [.int 0, rf a3]) [(0, 10, 13, 13)] (0, 10, 17, 15) [] hC htab rfl (fun z hz => by rw [List.mem_singleton.mp hz]; exact ⟨by decide, "java/lang/IndexOutOfBoundsException", k_L_13, fun U h => h.1⟩) (by decide) (by decide) k_L_15 (fun U h => h.1.1) (fun l hl => by have h9 := cX2_sign_ok M a0 a1 a2 _ hw l hl; rw [hE] at h9; exact h9) vm_X2_sign k_L_49 ho ⟨rfl, rfl⟩ rfl ⟨Nat.le_of_ble_eq_true rfl, Nat.le_of_ble_eq_true rfl⟩ (Nat.le_of_ble_eq_true rfl) ⟨Nat.le_of_ble_eq_true rfl, Nat.le_of_ble_eq_true rfl⟩ dL_sign_5 rfl (fun q => ?_)
        refine J_astoreQ (lv' := [(4, .ref q), (0, rf a0), (1, .int a1), (2, .int a2), (3, rf a3)]) hC dL_sign_17 (by decide) rfl ?_
        refine J_iconst (v := 2) hC dL_sign_19 (by decide) ?_
        exact J_iret hC dL_sign_20 (by have h9 := Option.some.inj h; subst h9; rfl) (Nat.le_of_ble_eq_true rfl) (Nat.le_of_ble_eq_true rfl)
      · cases h
  · refine J_callVX (As := [.int a1, .int a2]) (M' := M) (rv := some (Value.int v2)) (st := [.int 0, rf a3]) hC (fun l hl => by have h9 := cX2_sign_ok M a0 a1 a2 _ hw l hl; rw [hv] at h9; exact h9) vm_X2_sign k_L_49 ho ⟨rfl, rfl⟩ rfl ⟨Nat.le_of_ble_eq_true rfl, Nat.le_of_ble_eq_true rfl⟩ (Nat.le_of_ble_eq_true rfl) ⟨Nat.le_of_ble_eq_true rfl, Nat.le_of_ble_eq_true rfl⟩ dL_sign_5 rfl ?_
    refine J_i2l hC dL_sign_8 ?_
    refine J_last hC dL_sign_9 h (fun M3 _ h => ?_)
    refine J_goto (tgt := 21) hC dL_sign_10 (by decide) ?_
    refine J_iconst (v := 0) hC dL_sign_21 (by decide) ?_
    exact J_iret hC dL_sign_22 (by have h9 := Option.some.inj h; subst h9; rfl) (Nat.le_of_ble_eq_true rfl) (Nat.le_of_ble_eq_true rfl)
abbrev rm_L_of : Room := { frames := 8, cells := 2, slots := 12, locals := 134 }

set_option maxHeartbeats 4000000 in
set_option maxRecDepth 100000 in
theorem cL_of_ok (M : Mem) (a0 : Option Nat) (a1 : Int32) (a2 : Int32) (a3 : Option Nat) (r0 : Mem × Int32) (h : fL_of M a0 a1 a2 a3 = some r0) : ∀ l : Launch, l.stackTraces = false → ConW l yL_of cL_of 5 (some .int) [(0, 10, 13, 13), (0, 10, 17, 15)] rm_L_of [rf a0, .int a1, .int a2, rf a3] M (r0.1, Sum.inr (some (Value.int r0.2))) := by
  intro l hst
  refine ConW.enter hst (own := RL) (by decide +kernel) rfl (by exact Nat.le_of_ble_eq_true rfl) (lv0 := [(0, rf a0), (1, .int a1), (2, .int a2), (3, rf a3)]) (rfl) (fun C hC htab => ?_)
  unfold fL_of at h
  refine J_aload_n (j := 3) hC dL_of_0 rfl ?_
  refine J_iconst (v := 0) hC dL_of_1 (by decide) ?_
  refine J_aload_n (j := 0) hC dL_of_2 rfl ?_
  refine J_iload_n (j := 1) hC dL_of_3 rfl ?_
  refine J_iload_n (j := 2) hC dL_of_4 rfl ?_
  refine ck_c h (fun ho h => ?_)
  refine bnd_c h (fun w1 hw h => ?_)
  refine thrE_c h (fun E hE h => ?_) (fun v2 hv h => ?_)
  · refine ite_c h (fun c9 h => ?_) (fun c9 h => ?_)
    · subst c9
      refine J_catchV (E := "java/lang/IndexOutOfBoundsException") (name := "java/lang/IndexOutOfBoundsException") (hh := [(0, 10, 13, 13), (0, 10, 17, 15)]) (As := [.int a1, .int a2]) (M' := M) (st := [.int 0, rf a3]) [] (0, 10, 13, 13) [(0, 10, 17, 15)] hC htab rfl (fun z hz => absurd hz List.not_mem_nil) (by decide) (by decide) k_L_13 (fun U h => h.1.2.1) (fun l hl => by have h9 := cX2_of_ok M a0 a1 a2 _ hw l hl; rw [hE] at h9; exact h9) vm_X2_of k_L_52 ho ⟨rfl, rfl⟩ rfl ⟨Nat.le_of_ble_eq_true rfl, Nat.le_of_ble_eq_true rfl⟩ (Nat.le_of_ble_eq_true rfl) ⟨Nat.le_of_ble_eq_true rfl, Nat.le_of_ble_eq_true rfl⟩ dL_of_5 rfl (fun q => ?_)
      refine J_astoreQ (lv' := [(4, .ref q), (0, rf a0), (1, .int a1), (2, .int a2), (3, rf a3)]) hC dL_of_13 (by decide) rfl ?_
      refine J_iconst (v := 1) hC dL_of_15 (by decide) ?_
      exact J_iret hC dL_of_16 (by have h9 := Option.some.inj h; subst h9; rfl) (Nat.le_of_ble_eq_true rfl) (Nat.le_of_ble_eq_true rfl)
    · refine ite_c h (fun c9 h => ?_) (fun c9 h => ?_)
      · subst c9
        refine J_catchV (E := "java/lang/IllegalArgumentException") (name := "java/lang/IllegalArgumentException") (hh := [(0, 10, 13, 13), (0, 10, 17, 15)]) (As := [.int a1, .int a2]) (M' := M) (st := [.int 0, rf a3]) [(0, 10, 13, 13)] (0, 10, 17, 15) [] hC htab rfl (fun z hz => by rw [List.mem_singleton.mp hz]; exact ⟨by decide, "java/lang/IndexOutOfBoundsException", k_L_13, fun U h => h.1⟩) (by decide) (by decide) k_L_15 (fun U h => h.1.1) (fun l hl => by have h9 := cX2_of_ok M a0 a1 a2 _ hw l hl; rw [hE] at h9; exact h9) vm_X2_of k_L_52 ho ⟨rfl, rfl⟩ rfl ⟨Nat.le_of_ble_eq_true rfl, Nat.le_of_ble_eq_true rfl⟩ (Nat.le_of_ble_eq_true rfl) ⟨Nat.le_of_ble_eq_true rfl, Nat.le_of_ble_eq_true rfl⟩ dL_of_5 rfl (fun q => ?_)
        refine J_astoreQ (lv' := [(4, .ref q), (0, rf a0), (1, .int a1), (2, .int a2), (3, rf a3)]) hC dL_of_17 (by decide) rfl ?_
        refine J_iconst (v := 2) hC dL_of_19 (by decide) ?_
        exact J_iret hC dL_of_20 (by have h9 := Option.some.inj h; subst h9; rfl) (Nat.le_of_ble_eq_true rfl) (Nat.le_of_ble_eq_true rfl)
      · cases h
  · refine J_callVX (As := [.int a1, .int a2]) (M' := M) (rv := some (Value.int v2)) (st := [.int 0, rf a3]) hC (fun l hl => by have h9 := cX2_of_ok M a0 a1 a2 _ hw l hl; rw [hv] at h9; exact h9) vm_X2_of k_L_52 ho ⟨rfl, rfl⟩ rfl ⟨Nat.le_of_ble_eq_true rfl, Nat.le_of_ble_eq_true rfl⟩ (Nat.le_of_ble_eq_true rfl) ⟨Nat.le_of_ble_eq_true rfl, Nat.le_of_ble_eq_true rfl⟩ dL_of_5 rfl ?_
    refine J_i2l hC dL_of_8 ?_
    refine J_last hC dL_of_9 h (fun M3 _ h => ?_)
    refine J_goto (tgt := 21) hC dL_of_10 (by decide) ?_
    refine J_iconst (v := 0) hC dL_of_21 (by decide) ?_
    exact J_iret hC dL_of_22 (by have h9 := Option.some.inj h; subst h9; rfl) (Nat.le_of_ble_eq_true rfl) (Nat.le_of_ble_eq_true rfl)
abbrev rm_L_isRoot : Room := { frames := 8, cells := 2, slots := 12, locals := 132 }

set_option maxHeartbeats 4000000 in
set_option maxRecDepth 100000 in
theorem cL_isRoot_ok (M : Mem) (a0 : Option Nat) (a1 : Int32) (a2 : Int32) (a3 : Option Nat) (r0 : Mem × Int32) (h : fL_isRoot M a0 a1 a2 a3 = some r0) : ∀ l : Launch, l.stackTraces = false → ConW l yL_isRoot cL_isRoot 5 (some .int) [(0, 10, 13, 13), (0, 10, 17, 15)] rm_L_isRoot [rf a0, .int a1, .int a2, rf a3] M (r0.1, Sum.inr (some (Value.int r0.2))) := by
  intro l hst
  refine ConW.enter hst (own := RL) (by decide +kernel) rfl (by exact Nat.le_of_ble_eq_true rfl) (lv0 := [(0, rf a0), (1, .int a1), (2, .int a2), (3, rf a3)]) (rfl) (fun C hC htab => ?_)
  unfold fL_isRoot at h
  refine J_aload_n (j := 3) hC dL_isRoot_0 rfl ?_
  refine J_iconst (v := 0) hC dL_isRoot_1 (by decide) ?_
  refine J_aload_n (j := 0) hC dL_isRoot_2 rfl ?_
  refine J_iload_n (j := 1) hC dL_isRoot_3 rfl ?_
  refine J_iload_n (j := 2) hC dL_isRoot_4 rfl ?_
  refine ck_c h (fun ho h => ?_)
  refine bnd_c h (fun w1 hw h => ?_)
  refine thrE_c h (fun E hE h => ?_) (fun v2 hv h => ?_)
  · refine ite_c h (fun c9 h => ?_) (fun c9 h => ?_)
    · subst c9
      refine J_catchV (E := "java/lang/IndexOutOfBoundsException") (name := "java/lang/IndexOutOfBoundsException") (hh := [(0, 10, 13, 13), (0, 10, 17, 15)]) (As := [.int a1, .int a2]) (M' := M) (st := [.int 0, rf a3]) [] (0, 10, 13, 13) [(0, 10, 17, 15)] hC htab rfl (fun z hz => absurd hz List.not_mem_nil) (by decide) (by decide) k_L_13 (fun U h => h.1.2.1) (fun l hl => by have h9 := cX2_isRoot_ok M a0 a1 a2 _ hw l hl; rw [hE] at h9; exact h9) vm_X2_isRoot k_L_55 ho ⟨rfl, rfl⟩ rfl ⟨Nat.le_of_ble_eq_true rfl, Nat.le_of_ble_eq_true rfl⟩ (Nat.le_of_ble_eq_true rfl) ⟨Nat.le_of_ble_eq_true rfl, Nat.le_of_ble_eq_true rfl⟩ dL_isRoot_5 rfl (fun q => ?_)
      refine J_astoreQ (lv' := [(4, .ref q), (0, rf a0), (1, .int a1), (2, .int a2), (3, rf a3)]) hC dL_isRoot_13 (by decide) rfl ?_
      refine J_iconst (v := 1) hC dL_isRoot_15 (by decide) ?_
      exact J_iret hC dL_isRoot_16 (by have h9 := Option.some.inj h; subst h9; rfl) (Nat.le_of_ble_eq_true rfl) (Nat.le_of_ble_eq_true rfl)
    · refine ite_c h (fun c9 h => ?_) (fun c9 h => ?_)
      · subst c9
        refine J_catchV (E := "java/lang/IllegalArgumentException") (name := "java/lang/IllegalArgumentException") (hh := [(0, 10, 13, 13), (0, 10, 17, 15)]) (As := [.int a1, .int a2]) (M' := M) (st := [.int 0, rf a3]) [(0, 10, 13, 13)] (0, 10, 17, 15) [] hC htab rfl (fun z hz => by rw [List.mem_singleton.mp hz]; exact ⟨by decide, "java/lang/IndexOutOfBoundsException", k_L_13, fun U h => h.1⟩) (by decide) (by decide) k_L_15 (fun U h => h.1.1) (fun l hl => by have h9 := cX2_isRoot_ok M a0 a1 a2 _ hw l hl; rw [hE] at h9; exact h9) vm_X2_isRoot k_L_55 ho ⟨rfl, rfl⟩ rfl ⟨Nat.le_of_ble_eq_true rfl, Nat.le_of_ble_eq_true rfl⟩ (Nat.le_of_ble_eq_true rfl) ⟨Nat.le_of_ble_eq_true rfl, Nat.le_of_ble_eq_true rfl⟩ dL_isRoot_5 rfl (fun q => ?_)
        refine J_astoreQ (lv' := [(4, .ref q), (0, rf a0), (1, .int a1), (2, .int a2), (3, rf a3)]) hC dL_isRoot_17 (by decide) rfl ?_
        refine J_iconst (v := 2) hC dL_isRoot_19 (by decide) ?_
        exact J_iret hC dL_isRoot_20 (by have h9 := Option.some.inj h; subst h9; rfl) (Nat.le_of_ble_eq_true rfl) (Nat.le_of_ble_eq_true rfl)
      · cases h
  · refine J_callVX (As := [.int a1, .int a2]) (M' := M) (rv := some (Value.int v2)) (st := [.int 0, rf a3]) hC (fun l hl => by have h9 := cX2_isRoot_ok M a0 a1 a2 _ hw l hl; rw [hv] at h9; exact h9) vm_X2_isRoot k_L_55 ho ⟨rfl, rfl⟩ rfl ⟨Nat.le_of_ble_eq_true rfl, Nat.le_of_ble_eq_true rfl⟩ (Nat.le_of_ble_eq_true rfl) ⟨Nat.le_of_ble_eq_true rfl, Nat.le_of_ble_eq_true rfl⟩ dL_isRoot_5 rfl ?_
    refine J_i2l hC dL_isRoot_8 ?_
    refine J_last hC dL_isRoot_9 h (fun M3 _ h => ?_)
    refine J_goto (tgt := 21) hC dL_isRoot_10 (by decide) ?_
    refine J_iconst (v := 0) hC dL_isRoot_21 (by decide) ?_
    exact J_iret hC dL_isRoot_22 (by have h9 := Option.some.inj h; subst h9; rfl) (Nat.le_of_ble_eq_true rfl) (Nat.le_of_ble_eq_true rfl)
abbrev rm_L_times : Room := { frames := 18, cells := 3, slots := 18, locals := 474 }

set_option maxHeartbeats 4000000 in
set_option maxRecDepth 100000 in
theorem cL_times_ok (M : Mem) (a0 : Option Nat) (a1 : Int32) (a2 : Int32) (a3 : Int32) (a4 : Option Nat) (r0 : Mem × Int32) (h : fL_times M a0 a1 a2 a3 a4 = some r0) : ∀ l : Launch, l.stackTraces = false → ConW l yL_times cL_times 6 (some .int) [(0, 12, 15, 13), (0, 12, 19, 15)] rm_L_times [rf a0, .int a1, .int a2, .int a3, rf a4] M (r0.1, Sum.inr (some (Value.int r0.2))) := by
  intro l hst
  refine ConW.enter hst (own := RL) (by decide +kernel) rfl (by exact Nat.le_of_ble_eq_true rfl) (lv0 := [(0, rf a0), (1, .int a1), (2, .int a2), (3, .int a3), (4, rf a4)]) (rfl) (fun C hC htab => ?_)
  unfold fL_times at h
  refine J_aload (j := 4) hC dL_times_0 rfl ?_
  refine J_iconst (v := 0) hC dL_times_2 (by decide) ?_
  refine J_aload_n (j := 0) hC dL_times_3 rfl ?_
  refine J_iload_n (j := 1) hC dL_times_4 rfl ?_
  refine J_iload_n (j := 2) hC dL_times_5 rfl ?_
  refine J_iload_n (j := 3) hC dL_times_6 rfl ?_
  refine ck_c h (fun ho h => ?_)
  refine bnd_c h (fun w1 hw h => ?_)
  refine thrE_c h (fun E hE h => ?_) (fun v2 hv h => ?_)
  · refine ite_c h (fun c9 h => ?_) (fun c9 h => ?_)
    · subst c9
      refine J_catchV (E := "java/lang/IndexOutOfBoundsException") (name := "java/lang/IndexOutOfBoundsException") (hh := [(0, 12, 15, 13), (0, 12, 19, 15)]) (As := [.int a1, .int a2, .int a3]) (M' := w1.1) (st := [.int 0, rf a4]) [] (0, 12, 15, 13) [(0, 12, 19, 15)] hC htab rfl (fun z hz => absurd hz List.not_mem_nil) (by decide) (by decide) k_L_13 (fun U h => h.1.2.1) (fun l hl => by have h9 := cX2_times_ok M a0 a1 a2 a3 _ hw l hl; rw [hE] at h9; exact h9) vm_X2_times k_L_58 ho ⟨rfl, rfl⟩ rfl ⟨Nat.le_of_ble_eq_true rfl, Nat.le_of_ble_eq_true rfl⟩ (Nat.le_of_ble_eq_true rfl) ⟨Nat.le_of_ble_eq_true rfl, Nat.le_of_ble_eq_true rfl⟩ dL_times_7 rfl (fun q => ?_)
      refine J_astoreQ (lv' := [(5, .ref q), (0, rf a0), (1, .int a1), (2, .int a2), (3, .int a3), (4, rf a4)]) hC dL_times_15 (by decide) rfl ?_
      refine J_iconst (v := 1) hC dL_times_17 (by decide) ?_
      exact J_iret hC dL_times_18 (by have h9 := Option.some.inj h; subst h9; rfl) (Nat.le_of_ble_eq_true rfl) (Nat.le_of_ble_eq_true rfl)
    · refine ite_c h (fun c9 h => ?_) (fun c9 h => ?_)
      · subst c9
        refine J_catchV (E := "java/lang/IllegalArgumentException") (name := "java/lang/IllegalArgumentException") (hh := [(0, 12, 15, 13), (0, 12, 19, 15)]) (As := [.int a1, .int a2, .int a3]) (M' := w1.1) (st := [.int 0, rf a4]) [(0, 12, 15, 13)] (0, 12, 19, 15) [] hC htab rfl (fun z hz => by rw [List.mem_singleton.mp hz]; exact ⟨by decide, "java/lang/IndexOutOfBoundsException", k_L_13, fun U h => h.1⟩) (by decide) (by decide) k_L_15 (fun U h => h.1.1) (fun l hl => by have h9 := cX2_times_ok M a0 a1 a2 a3 _ hw l hl; rw [hE] at h9; exact h9) vm_X2_times k_L_58 ho ⟨rfl, rfl⟩ rfl ⟨Nat.le_of_ble_eq_true rfl, Nat.le_of_ble_eq_true rfl⟩ (Nat.le_of_ble_eq_true rfl) ⟨Nat.le_of_ble_eq_true rfl, Nat.le_of_ble_eq_true rfl⟩ dL_times_7 rfl (fun q => ?_)
        refine J_astoreQ (lv' := [(5, .ref q), (0, rf a0), (1, .int a1), (2, .int a2), (3, .int a3), (4, rf a4)]) hC dL_times_19 (by decide) rfl ?_
        refine J_iconst (v := 2) hC dL_times_21 (by decide) ?_
        exact J_iret hC dL_times_22 (by have h9 := Option.some.inj h; subst h9; rfl) (Nat.le_of_ble_eq_true rfl) (Nat.le_of_ble_eq_true rfl)
      · cases h
  · refine J_callVX (As := [.int a1, .int a2, .int a3]) (M' := w1.1) (rv := some (Value.int v2)) (st := [.int 0, rf a4]) hC (fun l hl => by have h9 := cX2_times_ok M a0 a1 a2 a3 _ hw l hl; rw [hv] at h9; exact h9) vm_X2_times k_L_58 ho ⟨rfl, rfl⟩ rfl ⟨Nat.le_of_ble_eq_true rfl, Nat.le_of_ble_eq_true rfl⟩ (Nat.le_of_ble_eq_true rfl) ⟨Nat.le_of_ble_eq_true rfl, Nat.le_of_ble_eq_true rfl⟩ dL_times_7 rfl ?_
    refine J_i2l hC dL_times_10 ?_
    refine J_last hC dL_times_11 h (fun M3 _ h => ?_)
    refine J_goto (tgt := 23) hC dL_times_12 (by decide) ?_
    refine J_iconst (v := 0) hC dL_times_23 (by decide) ?_
    exact J_iret hC dL_times_24 (by have h9 := Option.some.inj h; subst h9; rfl) (Nat.le_of_ble_eq_true rfl) (Nat.le_of_ble_eq_true rfl)
abbrev rm_L_quotients : Room := { frames := 8, cells := 2, slots := 12, locals := 133 }

set_option maxHeartbeats 4000000 in
set_option maxRecDepth 100000 in
theorem cL_quotients_ok (M : Mem) (a0 : Option Nat) (a1 : Int32) (a2 : Int32) (a3 : Option Nat) (r0 : Mem × Int32) (h : fL_quotients M a0 a1 a2 a3 = some r0) : ∀ l : Launch, l.stackTraces = false → ConW l yL_quotients cL_quotients 5 (some .int) [(0, 10, 13, 13), (0, 10, 17, 15)] rm_L_quotients [rf a0, .int a1, .int a2, rf a3] M (r0.1, Sum.inr (some (Value.int r0.2))) := by
  intro l hst
  refine ConW.enter hst (own := RL) (by decide +kernel) rfl (by exact Nat.le_of_ble_eq_true rfl) (lv0 := [(0, rf a0), (1, .int a1), (2, .int a2), (3, rf a3)]) (rfl) (fun C hC htab => ?_)
  unfold fL_quotients at h
  refine J_aload_n (j := 3) hC dL_quotients_0 rfl ?_
  refine J_iconst (v := 0) hC dL_quotients_1 (by decide) ?_
  refine J_aload_n (j := 0) hC dL_quotients_2 rfl ?_
  refine J_iload_n (j := 1) hC dL_quotients_3 rfl ?_
  refine J_iload_n (j := 2) hC dL_quotients_4 rfl ?_
  refine ck_c h (fun ho h => ?_)
  refine bnd_c h (fun w1 hw h => ?_)
  refine thrE_c h (fun E hE h => ?_) (fun v2 hv h => ?_)
  · refine ite_c h (fun c9 h => ?_) (fun c9 h => ?_)
    · subst c9
      refine J_catchV (E := "java/lang/IndexOutOfBoundsException") (name := "java/lang/IndexOutOfBoundsException") (hh := [(0, 10, 13, 13), (0, 10, 17, 15)]) (As := [.int a1, .int a2]) (M' := w1.1) (st := [.int 0, rf a3]) [] (0, 10, 13, 13) [(0, 10, 17, 15)] hC htab rfl (fun z hz => absurd hz List.not_mem_nil) (by decide) (by decide) k_L_13 (fun U h => h.1.2.1) (fun l hl => by have h9 := cX2_quotients_ok M a0 a1 a2 _ hw l hl; rw [hE] at h9; exact h9) vm_X2_quotients k_L_61 ho ⟨rfl, rfl⟩ rfl ⟨Nat.le_of_ble_eq_true rfl, Nat.le_of_ble_eq_true rfl⟩ (Nat.le_of_ble_eq_true rfl) ⟨Nat.le_of_ble_eq_true rfl, Nat.le_of_ble_eq_true rfl⟩ dL_quotients_5 rfl (fun q => ?_)
      refine J_astoreQ (lv' := [(4, .ref q), (0, rf a0), (1, .int a1), (2, .int a2), (3, rf a3)]) hC dL_quotients_13 (by decide) rfl ?_
      refine J_iconst (v := 1) hC dL_quotients_15 (by decide) ?_
      exact J_iret hC dL_quotients_16 (by have h9 := Option.some.inj h; subst h9; rfl) (Nat.le_of_ble_eq_true rfl) (Nat.le_of_ble_eq_true rfl)
    · refine ite_c h (fun c9 h => ?_) (fun c9 h => ?_)
      · subst c9
        refine J_catchV (E := "java/lang/IllegalArgumentException") (name := "java/lang/IllegalArgumentException") (hh := [(0, 10, 13, 13), (0, 10, 17, 15)]) (As := [.int a1, .int a2]) (M' := w1.1) (st := [.int 0, rf a3]) [(0, 10, 13, 13)] (0, 10, 17, 15) [] hC htab rfl (fun z hz => by rw [List.mem_singleton.mp hz]; exact ⟨by decide, "java/lang/IndexOutOfBoundsException", k_L_13, fun U h => h.1⟩) (by decide) (by decide) k_L_15 (fun U h => h.1.1) (fun l hl => by have h9 := cX2_quotients_ok M a0 a1 a2 _ hw l hl; rw [hE] at h9; exact h9) vm_X2_quotients k_L_61 ho ⟨rfl, rfl⟩ rfl ⟨Nat.le_of_ble_eq_true rfl, Nat.le_of_ble_eq_true rfl⟩ (Nat.le_of_ble_eq_true rfl) ⟨Nat.le_of_ble_eq_true rfl, Nat.le_of_ble_eq_true rfl⟩ dL_quotients_5 rfl (fun q => ?_)
        refine J_astoreQ (lv' := [(4, .ref q), (0, rf a0), (1, .int a1), (2, .int a2), (3, rf a3)]) hC dL_quotients_17 (by decide) rfl ?_
        refine J_iconst (v := 2) hC dL_quotients_19 (by decide) ?_
        exact J_iret hC dL_quotients_20 (by have h9 := Option.some.inj h; subst h9; rfl) (Nat.le_of_ble_eq_true rfl) (Nat.le_of_ble_eq_true rfl)
      · cases h
  · refine J_callVX (As := [.int a1, .int a2]) (M' := w1.1) (rv := some (Value.int v2)) (st := [.int 0, rf a3]) hC (fun l hl => by have h9 := cX2_quotients_ok M a0 a1 a2 _ hw l hl; rw [hv] at h9; exact h9) vm_X2_quotients k_L_61 ho ⟨rfl, rfl⟩ rfl ⟨Nat.le_of_ble_eq_true rfl, Nat.le_of_ble_eq_true rfl⟩ (Nat.le_of_ble_eq_true rfl) ⟨Nat.le_of_ble_eq_true rfl, Nat.le_of_ble_eq_true rfl⟩ dL_quotients_5 rfl ?_
    refine J_i2l hC dL_quotients_8 ?_
    refine J_last hC dL_quotients_9 h (fun M3 _ h => ?_)
    refine J_goto (tgt := 21) hC dL_quotients_10 (by decide) ?_
    refine J_iconst (v := 0) hC dL_quotients_21 (by decide) ?_
    exact J_iret hC dL_quotients_22 (by have h9 := Option.some.inj h; subst h9; rfl) (Nat.le_of_ble_eq_true rfl) (Nat.le_of_ble_eq_true rfl)
abbrev rm_L_best : Room := { frames := 18, cells := 2, slots := 12, locals := 472 }

set_option maxHeartbeats 4000000 in
set_option maxRecDepth 100000 in
theorem cL_best_ok (M : Mem) (a0 : Option Nat) (a1 : Int32) (a2 : Int32) (a3 : Option Nat) (r0 : Mem × Int32) (h : fL_best M a0 a1 a2 a3 = some r0) : ∀ l : Launch, l.stackTraces = false → ConW l yL_best cL_best 5 (some .int) [(0, 10, 13, 13), (0, 10, 17, 15)] rm_L_best [rf a0, .int a1, .int a2, rf a3] M (r0.1, Sum.inr (some (Value.int r0.2))) := by
  intro l hst
  refine ConW.enter hst (own := RL) (by decide +kernel) rfl (by exact Nat.le_of_ble_eq_true rfl) (lv0 := [(0, rf a0), (1, .int a1), (2, .int a2), (3, rf a3)]) (rfl) (fun C hC htab => ?_)
  unfold fL_best at h
  refine J_aload_n (j := 3) hC dL_best_0 rfl ?_
  refine J_iconst (v := 0) hC dL_best_1 (by decide) ?_
  refine J_aload_n (j := 0) hC dL_best_2 rfl ?_
  refine J_iload_n (j := 1) hC dL_best_3 rfl ?_
  refine J_iload_n (j := 2) hC dL_best_4 rfl ?_
  refine ck_c h (fun ho h => ?_)
  refine bnd_c h (fun w1 hw h => ?_)
  refine thrE_c h (fun E hE h => ?_) (fun v2 hv h => ?_)
  · refine ite_c h (fun c9 h => ?_) (fun c9 h => ?_)
    · subst c9
      refine J_catchV (E := "java/lang/IndexOutOfBoundsException") (name := "java/lang/IndexOutOfBoundsException") (hh := [(0, 10, 13, 13), (0, 10, 17, 15)]) (As := [.int a1, .int a2]) (M' := w1.1) (st := [.int 0, rf a3]) [] (0, 10, 13, 13) [(0, 10, 17, 15)] hC htab rfl (fun z hz => absurd hz List.not_mem_nil) (by decide) (by decide) k_L_13 (fun U h => h.1.2.1) (fun l hl => by have h9 := cX2_best_ok M a0 a1 a2 _ hw l hl; rw [hE] at h9; exact h9) vm_X2_best k_L_64 ho ⟨rfl, rfl⟩ rfl ⟨Nat.le_of_ble_eq_true rfl, Nat.le_of_ble_eq_true rfl⟩ (Nat.le_of_ble_eq_true rfl) ⟨Nat.le_of_ble_eq_true rfl, Nat.le_of_ble_eq_true rfl⟩ dL_best_5 rfl (fun q => ?_)
      refine J_astoreQ (lv' := [(4, .ref q), (0, rf a0), (1, .int a1), (2, .int a2), (3, rf a3)]) hC dL_best_13 (by decide) rfl ?_
      refine J_iconst (v := 1) hC dL_best_15 (by decide) ?_
      exact J_iret hC dL_best_16 (by have h9 := Option.some.inj h; subst h9; rfl) (Nat.le_of_ble_eq_true rfl) (Nat.le_of_ble_eq_true rfl)
    · refine ite_c h (fun c9 h => ?_) (fun c9 h => ?_)
      · subst c9
        refine J_catchV (E := "java/lang/IllegalArgumentException") (name := "java/lang/IllegalArgumentException") (hh := [(0, 10, 13, 13), (0, 10, 17, 15)]) (As := [.int a1, .int a2]) (M' := w1.1) (st := [.int 0, rf a3]) [(0, 10, 13, 13)] (0, 10, 17, 15) [] hC htab rfl (fun z hz => by rw [List.mem_singleton.mp hz]; exact ⟨by decide, "java/lang/IndexOutOfBoundsException", k_L_13, fun U h => h.1⟩) (by decide) (by decide) k_L_15 (fun U h => h.1.1) (fun l hl => by have h9 := cX2_best_ok M a0 a1 a2 _ hw l hl; rw [hE] at h9; exact h9) vm_X2_best k_L_64 ho ⟨rfl, rfl⟩ rfl ⟨Nat.le_of_ble_eq_true rfl, Nat.le_of_ble_eq_true rfl⟩ (Nat.le_of_ble_eq_true rfl) ⟨Nat.le_of_ble_eq_true rfl, Nat.le_of_ble_eq_true rfl⟩ dL_best_5 rfl (fun q => ?_)
        refine J_astoreQ (lv' := [(4, .ref q), (0, rf a0), (1, .int a1), (2, .int a2), (3, rf a3)]) hC dL_best_17 (by decide) rfl ?_
        refine J_iconst (v := 2) hC dL_best_19 (by decide) ?_
        exact J_iret hC dL_best_20 (by have h9 := Option.some.inj h; subst h9; rfl) (Nat.le_of_ble_eq_true rfl) (Nat.le_of_ble_eq_true rfl)
      · cases h
  · refine J_callVX (As := [.int a1, .int a2]) (M' := w1.1) (rv := some (Value.int v2)) (st := [.int 0, rf a3]) hC (fun l hl => by have h9 := cX2_best_ok M a0 a1 a2 _ hw l hl; rw [hv] at h9; exact h9) vm_X2_best k_L_64 ho ⟨rfl, rfl⟩ rfl ⟨Nat.le_of_ble_eq_true rfl, Nat.le_of_ble_eq_true rfl⟩ (Nat.le_of_ble_eq_true rfl) ⟨Nat.le_of_ble_eq_true rfl, Nat.le_of_ble_eq_true rfl⟩ dL_best_5 rfl ?_
    refine J_i2l hC dL_best_8 ?_
    refine J_last hC dL_best_9 h (fun M3 _ h => ?_)
    refine J_goto (tgt := 21) hC dL_best_10 (by decide) ?_
    refine J_iconst (v := 0) hC dL_best_21 (by decide) ?_
    exact J_iret hC dL_best_22 (by have h9 := Option.some.inj h; subst h9; rfl) (Nat.le_of_ble_eq_true rfl) (Nat.le_of_ble_eq_true rfl)
abbrev rm_L_many : Room := { frames := 8, cells := 3, slots := 18, locals := 134 }

set_option maxHeartbeats 4000000 in
set_option maxRecDepth 100000 in
theorem cL_many_ok (M : Mem) (a0 : Option Nat) (a1 : Int32) (a2 : Int32) (a3 : Int32) (a4 : Option Nat) (r0 : Mem × Int32) (h : fL_many M a0 a1 a2 a3 a4 = some r0) : ∀ l : Launch, l.stackTraces = false → ConW l yL_many cL_many 6 (some .int) [(0, 12, 15, 13), (0, 12, 19, 15)] rm_L_many [rf a0, .int a1, .int a2, .int a3, rf a4] M (r0.1, Sum.inr (some (Value.int r0.2))) := by
  intro l hst
  refine ConW.enter hst (own := RL) (by decide +kernel) rfl (by exact Nat.le_of_ble_eq_true rfl) (lv0 := [(0, rf a0), (1, .int a1), (2, .int a2), (3, .int a3), (4, rf a4)]) (rfl) (fun C hC htab => ?_)
  unfold fL_many at h
  refine J_aload (j := 4) hC dL_many_0 rfl ?_
  refine J_iconst (v := 0) hC dL_many_2 (by decide) ?_
  refine J_aload_n (j := 0) hC dL_many_3 rfl ?_
  refine J_iload_n (j := 1) hC dL_many_4 rfl ?_
  refine J_iload_n (j := 2) hC dL_many_5 rfl ?_
  refine J_iload_n (j := 3) hC dL_many_6 rfl ?_
  refine ck_c h (fun ho h => ?_)
  refine bnd_c h (fun w1 hw h => ?_)
  refine thrE_c h (fun E hE h => ?_) (fun v2 hv h => ?_)
  · refine ite_c h (fun c9 h => ?_) (fun c9 h => ?_)
    · subst c9
      refine J_catchV (E := "java/lang/IndexOutOfBoundsException") (name := "java/lang/IndexOutOfBoundsException") (hh := [(0, 12, 15, 13), (0, 12, 19, 15)]) (As := [.int a1, .int a2, .int a3]) (M' := M) (st := [.int 0, rf a4]) [] (0, 12, 15, 13) [(0, 12, 19, 15)] hC htab rfl (fun z hz => absurd hz List.not_mem_nil) (by decide) (by decide) k_L_13 (fun U h => h.1.2.1) (fun l hl => by have h9 := cX2_many_ok M a0 a1 a2 a3 _ hw l hl; rw [hE] at h9; exact h9) vm_X2_many k_L_67 ho ⟨rfl, rfl⟩ rfl ⟨Nat.le_of_ble_eq_true rfl, Nat.le_of_ble_eq_true rfl⟩ (Nat.le_of_ble_eq_true rfl) ⟨Nat.le_of_ble_eq_true rfl, Nat.le_of_ble_eq_true rfl⟩ dL_many_7 rfl (fun q => ?_)
      refine J_astoreQ (lv' := [(5, .ref q), (0, rf a0), (1, .int a1), (2, .int a2), (3, .int a3), (4, rf a4)]) hC dL_many_15 (by decide) rfl ?_
      refine J_iconst (v := 1) hC dL_many_17 (by decide) ?_
      exact J_iret hC dL_many_18 (by have h9 := Option.some.inj h; subst h9; rfl) (Nat.le_of_ble_eq_true rfl) (Nat.le_of_ble_eq_true rfl)
    · refine ite_c h (fun c9 h => ?_) (fun c9 h => ?_)
      · subst c9
        refine J_catchV (E := "java/lang/IllegalArgumentException") (name := "java/lang/IllegalArgumentException") (hh := [(0, 12, 15, 13), (0, 12, 19, 15)]) (As := [.int a1, .int a2, .int a3]) (M' := M) (st := [.int 0, rf a4]) [(0, 12, 15, 13)] (0, 12, 19, 15) [] hC htab rfl (fun z hz => by rw [List.mem_singleton.mp hz]; exact ⟨by decide, "java/lang/IndexOutOfBoundsException", k_L_13, fun U h => h.1⟩) (by decide) (by decide) k_L_15 (fun U h => h.1.1) (fun l hl => by have h9 := cX2_many_ok M a0 a1 a2 a3 _ hw l hl; rw [hE] at h9; exact h9) vm_X2_many k_L_67 ho ⟨rfl, rfl⟩ rfl ⟨Nat.le_of_ble_eq_true rfl, Nat.le_of_ble_eq_true rfl⟩ (Nat.le_of_ble_eq_true rfl) ⟨Nat.le_of_ble_eq_true rfl, Nat.le_of_ble_eq_true rfl⟩ dL_many_7 rfl (fun q => ?_)
        refine J_astoreQ (lv' := [(5, .ref q), (0, rf a0), (1, .int a1), (2, .int a2), (3, .int a3), (4, rf a4)]) hC dL_many_19 (by decide) rfl ?_
        refine J_iconst (v := 2) hC dL_many_21 (by decide) ?_
        exact J_iret hC dL_many_22 (by have h9 := Option.some.inj h; subst h9; rfl) (Nat.le_of_ble_eq_true rfl) (Nat.le_of_ble_eq_true rfl)
      · cases h
  · refine J_callVX (As := [.int a1, .int a2, .int a3]) (M' := M) (rv := some (Value.int v2)) (st := [.int 0, rf a4]) hC (fun l hl => by have h9 := cX2_many_ok M a0 a1 a2 a3 _ hw l hl; rw [hv] at h9; exact h9) vm_X2_many k_L_67 ho ⟨rfl, rfl⟩ rfl ⟨Nat.le_of_ble_eq_true rfl, Nat.le_of_ble_eq_true rfl⟩ (Nat.le_of_ble_eq_true rfl) ⟨Nat.le_of_ble_eq_true rfl, Nat.le_of_ble_eq_true rfl⟩ dL_many_7 rfl ?_
    refine J_i2l hC dL_many_10 ?_
    refine J_last hC dL_many_11 h (fun M3 _ h => ?_)
    refine J_goto (tgt := 23) hC dL_many_12 (by decide) ?_
    refine J_iconst (v := 0) hC dL_many_23 (by decide) ?_
    exact J_iret hC dL_many_24 (by have h9 := Option.some.inj h; subst h9; rfl) (Nat.le_of_ble_eq_true rfl) (Nat.le_of_ble_eq_true rfl)
abbrev rm_L_isIn : Room := { frames := 8, cells := 4, slots := 24, locals := 135 }

set_option maxHeartbeats 4000000 in
set_option maxRecDepth 100000 in
theorem cL_isIn_ok (M : Mem) (a0 : Option Nat) (a1 : Int32) (a2 : Int32) (a3 : Int32) (a4 : Int32) (a5 : Option Nat) (r0 : Mem × Int32) (h : fL_isIn M a0 a1 a2 a3 a4 a5 = some r0) : ∀ l : Launch, l.stackTraces = false → ConW l yL_isIn cL_isIn 7 (some .int) [(0, 14, 17, 13), (0, 14, 21, 15)] rm_L_isIn [rf a0, .int a1, .int a2, .int a3, .int a4, rf a5] M (r0.1, Sum.inr (some (Value.int r0.2))) := by
  intro l hst
  refine ConW.enter hst (own := RL) (by decide +kernel) rfl (by exact Nat.le_of_ble_eq_true rfl) (lv0 := [(0, rf a0), (1, .int a1), (2, .int a2), (3, .int a3), (4, .int a4), (5, rf a5)]) (rfl) (fun C hC htab => ?_)
  unfold fL_isIn at h
  refine J_aload (j := 5) hC dL_isIn_0 rfl ?_
  refine J_iconst (v := 0) hC dL_isIn_2 (by decide) ?_
  refine J_aload_n (j := 0) hC dL_isIn_3 rfl ?_
  refine J_iload_n (j := 1) hC dL_isIn_4 rfl ?_
  refine J_iload_n (j := 2) hC dL_isIn_5 rfl ?_
  refine J_iload_n (j := 3) hC dL_isIn_6 rfl ?_
  refine J_iload (j := 4) hC dL_isIn_7 rfl ?_
  refine ck_c h (fun ho h => ?_)
  refine bnd_c h (fun w1 hw h => ?_)
  refine thrE_c h (fun E hE h => ?_) (fun v2 hv h => ?_)
  · refine ite_c h (fun c9 h => ?_) (fun c9 h => ?_)
    · subst c9
      refine J_catchV (E := "java/lang/IndexOutOfBoundsException") (name := "java/lang/IndexOutOfBoundsException") (hh := [(0, 14, 17, 13), (0, 14, 21, 15)]) (As := [.int a1, .int a2, .int a3, .int a4]) (M' := M) (st := [.int 0, rf a5]) [] (0, 14, 17, 13) [(0, 14, 21, 15)] hC htab rfl (fun z hz => absurd hz List.not_mem_nil) (by decide) (by decide) k_L_13 (fun U h => h.1.2.1) (fun l hl => by have h9 := cX2_isIn_ok M a0 a1 a2 a3 a4 _ hw l hl; rw [hE] at h9; exact h9) vm_X2_isIn k_L_70 ho ⟨rfl, rfl⟩ rfl ⟨Nat.le_of_ble_eq_true rfl, Nat.le_of_ble_eq_true rfl⟩ (Nat.le_of_ble_eq_true rfl) ⟨Nat.le_of_ble_eq_true rfl, Nat.le_of_ble_eq_true rfl⟩ dL_isIn_9 rfl (fun q => ?_)
      refine J_astoreQ (lv' := [(6, .ref q), (0, rf a0), (1, .int a1), (2, .int a2), (3, .int a3), (4, .int a4), (5, rf a5)]) hC dL_isIn_17 (by decide) rfl ?_
      refine J_iconst (v := 1) hC dL_isIn_19 (by decide) ?_
      exact J_iret hC dL_isIn_20 (by have h9 := Option.some.inj h; subst h9; rfl) (Nat.le_of_ble_eq_true rfl) (Nat.le_of_ble_eq_true rfl)
    · refine ite_c h (fun c9 h => ?_) (fun c9 h => ?_)
      · subst c9
        refine J_catchV (E := "java/lang/IllegalArgumentException") (name := "java/lang/IllegalArgumentException") (hh := [(0, 14, 17, 13), (0, 14, 21, 15)]) (As := [.int a1, .int a2, .int a3, .int a4]) (M' := M) (st := [.int 0, rf a5]) [(0, 14, 17, 13)] (0, 14, 21, 15) [] hC htab rfl (fun z hz => by rw [List.mem_singleton.mp hz]; exact ⟨by decide, "java/lang/IndexOutOfBoundsException", k_L_13, fun U h => h.1⟩) (by decide) (by decide) k_L_15 (fun U h => h.1.1) (fun l hl => by have h9 := cX2_isIn_ok M a0 a1 a2 a3 a4 _ hw l hl; rw [hE] at h9; exact h9) vm_X2_isIn k_L_70 ho ⟨rfl, rfl⟩ rfl ⟨Nat.le_of_ble_eq_true rfl, Nat.le_of_ble_eq_true rfl⟩ (Nat.le_of_ble_eq_true rfl) ⟨Nat.le_of_ble_eq_true rfl, Nat.le_of_ble_eq_true rfl⟩ dL_isIn_9 rfl (fun q => ?_)
        refine J_astoreQ (lv' := [(6, .ref q), (0, rf a0), (1, .int a1), (2, .int a2), (3, .int a3), (4, .int a4), (5, rf a5)]) hC dL_isIn_21 (by decide) rfl ?_
        refine J_iconst (v := 2) hC dL_isIn_23 (by decide) ?_
        exact J_iret hC dL_isIn_24 (by have h9 := Option.some.inj h; subst h9; rfl) (Nat.le_of_ble_eq_true rfl) (Nat.le_of_ble_eq_true rfl)
      · cases h
  · refine J_callVX (As := [.int a1, .int a2, .int a3, .int a4]) (M' := M) (rv := some (Value.int v2)) (st := [.int 0, rf a5]) hC (fun l hl => by have h9 := cX2_isIn_ok M a0 a1 a2 a3 a4 _ hw l hl; rw [hv] at h9; exact h9) vm_X2_isIn k_L_70 ho ⟨rfl, rfl⟩ rfl ⟨Nat.le_of_ble_eq_true rfl, Nat.le_of_ble_eq_true rfl⟩ (Nat.le_of_ble_eq_true rfl) ⟨Nat.le_of_ble_eq_true rfl, Nat.le_of_ble_eq_true rfl⟩ dL_isIn_9 rfl ?_
    refine J_i2l hC dL_isIn_12 ?_
    refine J_last hC dL_isIn_13 h (fun M3 _ h => ?_)
    refine J_goto (tgt := 25) hC dL_isIn_14 (by decide) ?_
    refine J_iconst (v := 0) hC dL_isIn_25 (by decide) ?_
    exact J_iret hC dL_isIn_26 (by have h9 := Option.some.inj h; subst h9; rfl) (Nat.le_of_ble_eq_true rfl) (Nat.le_of_ble_eq_true rfl)
abbrev rm_L_coefficient : Room := { frames := 8, cells := 1, slots := 6, locals := 131 }

set_option maxHeartbeats 4000000 in
set_option maxRecDepth 100000 in
theorem cL_coefficient_ok (M : Mem) (a0 : Option Nat) (a1 : Int32) (a2 : Option Nat) (r0 : Mem × Int32) (h : fL_coefficient M a0 a1 a2 = some r0) : ∀ l : Launch, l.stackTraces = false → ConW l yL_coefficient cL_coefficient 4 (some .int) [(0, 8, 11, 15)] rm_L_coefficient [rf a0, .int a1, rf a2] M (r0.1, Sum.inr (some (Value.int r0.2))) := by
  intro l hst
  refine ConW.enter hst (own := RL) (by decide +kernel) rfl (by exact Nat.le_of_ble_eq_true rfl) (lv0 := [(0, rf a0), (1, .int a1), (2, rf a2)]) (rfl) (fun C hC htab => ?_)
  unfold fL_coefficient at h
  refine J_aload_n (j := 2) hC dL_coefficient_0 rfl ?_
  refine J_iconst (v := 0) hC dL_coefficient_1 (by decide) ?_
  refine J_aload_n (j := 0) hC dL_coefficient_2 rfl ?_
  refine J_iload_n (j := 1) hC dL_coefficient_3 rfl ?_
  refine ck_c h (fun ho h => ?_)
  refine bnd_c h (fun w1 hw h => ?_)
  refine thrE_c h (fun E hE h => ?_) (fun v2 hv h => ?_)
  · refine ite_c h (fun c9 h => ?_) (fun c9 h => ?_)
    · subst c9
      refine J_catchV (E := "java/lang/IllegalArgumentException") (name := "java/lang/IllegalArgumentException") (hh := [(0, 8, 11, 15)]) (As := [.int a1]) (M' := w1.1) (st := [.int 0, rf a2]) [] (0, 8, 11, 15) [] hC htab rfl (fun z hz => absurd hz List.not_mem_nil) (by decide) (by decide) k_L_15 (fun U h => h.1.1) (fun l hl => by have h9 := cX2_coefficient_ok M a0 a1 _ hw l hl; rw [hE] at h9; exact h9) vm_X2_coefficient k_L_74 ho ⟨rfl, rfl⟩ rfl ⟨Nat.le_of_ble_eq_true rfl, Nat.le_of_ble_eq_true rfl⟩ (Nat.le_of_ble_eq_true rfl) ⟨Nat.le_of_ble_eq_true rfl, Nat.le_of_ble_eq_true rfl⟩ dL_coefficient_4 rfl (fun q => ?_)
      refine J_astoreQ_n (i := 3) (lv' := [(3, .ref q), (0, rf a0), (1, .int a1), (2, rf a2)]) rfl hC dL_coefficient_11 (by decide) rfl ?_
      refine J_iconst (v := 1) hC dL_coefficient_12 (by decide) ?_
      exact J_iret hC dL_coefficient_13 (by have h9 := Option.some.inj h; subst h9; rfl) (Nat.le_of_ble_eq_true rfl) (Nat.le_of_ble_eq_true rfl)
    · cases h
  · refine J_callVX (As := [.int a1]) (M' := w1.1) (rv := some (Value.long v2)) (st := [.int 0, rf a2]) hC (fun l hl => by have h9 := cX2_coefficient_ok M a0 a1 _ hw l hl; rw [hv] at h9; exact h9) vm_X2_coefficient k_L_74 ho ⟨rfl, rfl⟩ rfl ⟨Nat.le_of_ble_eq_true rfl, Nat.le_of_ble_eq_true rfl⟩ (Nat.le_of_ble_eq_true rfl) ⟨Nat.le_of_ble_eq_true rfl, Nat.le_of_ble_eq_true rfl⟩ dL_coefficient_4 rfl ?_
    refine J_last hC dL_coefficient_7 h (fun M3 _ h => ?_)
    refine J_goto (tgt := 14) hC dL_coefficient_8 (by decide) ?_
    refine J_iconst (v := 0) hC dL_coefficient_14 (by decide) ?_
    exact J_iret hC dL_coefficient_15 (by have h9 := Option.some.inj h; subst h9; rfl) (Nat.le_of_ble_eq_true rfl) (Nat.le_of_ble_eq_true rfl)
abbrev rm_L_count : Room := { frames := 8, cells := 1, slots := 6, locals := 132 }

set_option maxHeartbeats 4000000 in
set_option maxRecDepth 100000 in
theorem cL_count_ok (M : Mem) (a0 : Option Nat) (a1 : Int32) (a2 : Option Nat) (r0 : Mem × Int32) (h : fL_count M a0 a1 a2 = some r0) : ∀ l : Launch, l.stackTraces = false → ConW l yL_count cL_count 4 (some .int) [(0, 9, 12, 15)] rm_L_count [rf a0, .int a1, rf a2] M (r0.1, Sum.inr (some (Value.int r0.2))) := by
  intro l hst
  refine ConW.enter hst (own := RL) (by decide +kernel) rfl (by exact Nat.le_of_ble_eq_true rfl) (lv0 := [(0, rf a0), (1, .int a1), (2, rf a2)]) (rfl) (fun C hC htab => ?_)
  unfold fL_count at h
  refine J_aload_n (j := 2) hC dL_count_0 rfl ?_
  refine J_iconst (v := 0) hC dL_count_1 (by decide) ?_
  refine J_aload_n (j := 0) hC dL_count_2 rfl ?_
  refine J_iload_n (j := 1) hC dL_count_3 rfl ?_
  refine ck_c h (fun ho h => ?_)
  refine bnd_c h (fun w1 hw h => ?_)
  refine thrE_c h (fun E hE h => ?_) (fun v2 hv h => ?_)
  · refine ite_c h (fun c9 h => ?_) (fun c9 h => ?_)
    · subst c9
      refine J_catchV (E := "java/lang/IllegalArgumentException") (name := "java/lang/IllegalArgumentException") (hh := [(0, 9, 12, 15)]) (As := [.int a1]) (M' := M) (st := [.int 0, rf a2]) [] (0, 9, 12, 15) [] hC htab rfl (fun z hz => absurd hz List.not_mem_nil) (by decide) (by decide) k_L_15 (fun U h => h.1.1) (fun l hl => by have h9 := cX2_count_ok M a0 a1 _ hw l hl; rw [hE] at h9; exact h9) vm_X2_count k_L_78 ho ⟨rfl, rfl⟩ rfl ⟨Nat.le_of_ble_eq_true rfl, Nat.le_of_ble_eq_true rfl⟩ (Nat.le_of_ble_eq_true rfl) ⟨Nat.le_of_ble_eq_true rfl, Nat.le_of_ble_eq_true rfl⟩ dL_count_4 rfl (fun q => ?_)
      refine J_astoreQ_n (i := 3) (lv' := [(3, .ref q), (0, rf a0), (1, .int a1), (2, rf a2)]) rfl hC dL_count_12 (by decide) rfl ?_
      refine J_iconst (v := 1) hC dL_count_13 (by decide) ?_
      exact J_iret hC dL_count_14 (by have h9 := Option.some.inj h; subst h9; rfl) (Nat.le_of_ble_eq_true rfl) (Nat.le_of_ble_eq_true rfl)
    · cases h
  · refine J_callVX (As := [.int a1]) (M' := M) (rv := some (Value.int v2)) (st := [.int 0, rf a2]) hC (fun l hl => by have h9 := cX2_count_ok M a0 a1 _ hw l hl; rw [hv] at h9; exact h9) vm_X2_count k_L_78 ho ⟨rfl, rfl⟩ rfl ⟨Nat.le_of_ble_eq_true rfl, Nat.le_of_ble_eq_true rfl⟩ (Nat.le_of_ble_eq_true rfl) ⟨Nat.le_of_ble_eq_true rfl, Nat.le_of_ble_eq_true rfl⟩ dL_count_4 rfl ?_
    refine J_i2l hC dL_count_7 ?_
    refine J_last hC dL_count_8 h (fun M3 _ h => ?_)
    refine J_goto (tgt := 15) hC dL_count_9 (by decide) ?_
    refine J_iconst (v := 0) hC dL_count_15 (by decide) ?_
    exact J_iret hC dL_count_16 (by have h9 := Option.some.inj h; subst h9; rfl) (Nat.le_of_ble_eq_true rfl) (Nat.le_of_ble_eq_true rfl)
abbrev rm_L_takenShare : Room := { frames := 8, cells := 1, slots := 6, locals := 131 }

set_option maxHeartbeats 4000000 in
set_option maxRecDepth 100000 in
theorem cL_takenShare_ok (M : Mem) (a0 : Option Nat) (a1 : Int32) (a2 : Option Nat) (r0 : Mem × Int32) (h : fL_takenShare M a0 a1 a2 = some r0) : ∀ l : Launch, l.stackTraces = false → ConW l yL_takenShare cL_takenShare 4 (some .int) [(0, 8, 11, 13)] rm_L_takenShare [rf a0, .int a1, rf a2] M (r0.1, Sum.inr (some (Value.int r0.2))) := by
  intro l hst
  refine ConW.enter hst (own := RL) (by decide +kernel) rfl (by exact Nat.le_of_ble_eq_true rfl) (lv0 := [(0, rf a0), (1, .int a1), (2, rf a2)]) (rfl) (fun C hC htab => ?_)
  unfold fL_takenShare at h
  refine J_aload_n (j := 2) hC dL_takenShare_0 rfl ?_
  refine J_iconst (v := 0) hC dL_takenShare_1 (by decide) ?_
  refine J_aload_n (j := 0) hC dL_takenShare_2 rfl ?_
  refine J_iload_n (j := 1) hC dL_takenShare_3 rfl ?_
  refine ck_c h (fun ho h => ?_)
  refine bnd_c h (fun w1 hw h => ?_)
  refine thrE_c h (fun E hE h => ?_) (fun v2 hv h => ?_)
  · refine ite_c h (fun c9 h => ?_) (fun c9 h => ?_)
    · subst c9
      refine J_catchV (E := "java/lang/IndexOutOfBoundsException") (name := "java/lang/IndexOutOfBoundsException") (hh := [(0, 8, 11, 13)]) (As := [.int a1]) (M' := M) (st := [.int 0, rf a2]) [] (0, 8, 11, 13) [] hC htab rfl (fun z hz => absurd hz List.not_mem_nil) (by decide) (by decide) k_L_13 (fun U h => h.1.2.1) (fun l hl => by have h9 := cX2_takenShare_ok M a0 a1 _ hw l hl; rw [hE] at h9; exact h9) vm_X2_takenShare k_L_81 ho ⟨rfl, rfl⟩ rfl ⟨Nat.le_of_ble_eq_true rfl, Nat.le_of_ble_eq_true rfl⟩ (Nat.le_of_ble_eq_true rfl) ⟨Nat.le_of_ble_eq_true rfl, Nat.le_of_ble_eq_true rfl⟩ dL_takenShare_4 rfl (fun q => ?_)
      refine J_astoreQ_n (i := 3) (lv' := [(3, .ref q), (0, rf a0), (1, .int a1), (2, rf a2)]) rfl hC dL_takenShare_11 (by decide) rfl ?_
      refine J_iconst (v := 1) hC dL_takenShare_12 (by decide) ?_
      exact J_iret hC dL_takenShare_13 (by have h9 := Option.some.inj h; subst h9; rfl) (Nat.le_of_ble_eq_true rfl) (Nat.le_of_ble_eq_true rfl)
    · cases h
  · refine J_callVX (As := [.int a1]) (M' := M) (rv := some (Value.double v2)) (st := [.int 0, rf a2]) hC (fun l hl => by have h9 := cX2_takenShare_ok M a0 a1 _ hw l hl; rw [hv] at h9; exact h9) vm_X2_takenShare k_L_81 ho ⟨rfl, rfl⟩ rfl ⟨Nat.le_of_ble_eq_true rfl, Nat.le_of_ble_eq_true rfl⟩ (Nat.le_of_ble_eq_true rfl) ⟨Nat.le_of_ble_eq_true rfl, Nat.le_of_ble_eq_true rfl⟩ dL_takenShare_4 rfl ?_
    refine J_dast hC dL_takenShare_7 h (fun M3 _ h => ?_)
    refine J_goto (tgt := 14) hC dL_takenShare_8 (by decide) ?_
    refine J_iconst (v := 0) hC dL_takenShare_14 (by decide) ?_
    exact J_iret hC dL_takenShare_15 (by have h9 := Option.some.inj h; subst h9; rfl) (Nat.le_of_ble_eq_true rfl) (Nat.le_of_ble_eq_true rfl)
