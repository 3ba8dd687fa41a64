abbrev rm_X3_isRoot : Room := { frames := 2, cells := 0, slots := 0, locals := 48 }

set_option maxHeartbeats 4000000 in
set_option maxRecDepth 100000 in
theorem cX3_isRoot_ok (M : Mem) (a0 : Option Nat) (a1 : Int32) (a2 : Int32) (r0 : Mem × Int32) (h : fX3_isRoot M a0 a1 a2 = some r0) : ∀ l : Launch, l.stackTraces = false → Con false l yX3_isRoot cX3_isRoot 3 (some .int) rm_X3_isRoot [rf a0, .int a1, .int a2] M (r0.1, Sum.inr (some (Value.int r0.2))) := by
  intro l hst
  refine Con.enter hst (own := RX3) (by decide +kernel) rfl (by exact Nat.le_of_ble_eq_true rfl) (lv0 := [(0, rf a0), (1, .int a1), (2, .int a2)]) (rfl) (fun C hC hin => ?_)
  unfold fX3_isRoot at h
  refine J_aload_n (j := 0) hC dX3_isRoot_0 rfl ?_
  refine J_iconst (v := 0) hC dX3_isRoot_1 (by decide) ?_
  refine J_p3_0 hC k_X3_36 dX3_isRoot_2 h (fun M1 _ h => ?_)
  refine J_iload_n (j := 1) hC dX3_isRoot_5 rfl ?_
  refine bnd_c h (fun w2 hw h => ?_)
  refine J_callS (As := [.int a1]) (M' := M1) (rv := some (Value.int w2)) (st := []) hC (fun l hl => cX3_isPoly_ok M1 a1 _ hw l hl) sm_X3_isPoly k_X3_75 rfl ⟨Nat.le_of_ble_eq_true rfl, Nat.le_of_ble_eq_true rfl⟩ (Nat.zero_le _) ⟨Nat.le_of_ble_eq_true rfl, Nat.le_of_ble_eq_true rfl⟩ dX3_isRoot_6 rfl ?_
  refine J_if_ne (tgt := 18) hC dX3_isRoot_9 (by decide) (fun c3 => ?_) (fun c3 => ?_)
  · have h := ite_f c3 h
    refine J_iload_n (j := 2) hC dX3_isRoot_18 rfl ?_
    refine bnd_c h (fun w5 hw h => ?_)
    refine J_callS (As := [.int a2]) (M' := M1) (rv := some (Value.int w5)) (st := []) hC (fun l hl => cX3_isSign_ok M1 a2 _ hw l hl) sm_X3_isSign k_X3_82 rfl ⟨Nat.le_of_ble_eq_true rfl, Nat.le_of_ble_eq_true rfl⟩ (Nat.zero_le _) ⟨Nat.le_of_ble_eq_true rfl, Nat.le_of_ble_eq_true rfl⟩ dX3_isRoot_19 rfl ?_
    refine J_if_ne (tgt := 33) hC dX3_isRoot_22 (by decide) (fun c6 => ?_) (fun c6 => ?_)
    · have h := ite_f c6 h
      refine J_aload_n (j := 0) hC dX3_isRoot_33 rfl ?_
      refine J_iload_n (j := 1) hC dX3_isRoot_34 rfl ?_
      refine J_iload_n (j := 2) hC dX3_isRoot_35 rfl ?_
      refine ck_c h (fun ho h => ?_)
      refine bnd_c h (fun w8 hw h => ?_)
      refine J_callV (As := [.int a1, .int a2]) (M' := M1) (rv := some (Value.int w8)) (st := []) hC (fun l hl => cX3_has_ok M1 a0 a1 a2 _ hw l hl) vm_X3_has k_X3_117 ho ⟨rfl, rfl⟩ rfl ⟨Nat.le_of_ble_eq_true rfl, Nat.le_of_ble_eq_true rfl⟩ (Nat.zero_le _) ⟨Nat.le_of_ble_eq_true rfl, Nat.le_of_ble_eq_true rfl⟩ dX3_isRoot_36 rfl ?_
      have hj : ∀ (z9 : Int32), z9 = (if w8 = 0 then 0 else 1) → J C 0 0 M1 47 [(0, rf a0), (1, .int a1), (2, .int a2)] [.int z9] := by
        intro z9 ez9
        subst ez9
        exact J_iret hC dX3_isRoot_47 (by have h9 := Option.some.inj h; subst h9; rfl) (Nat.le_of_ble_eq_true rfl) (Nat.le_of_ble_eq_true rfl)
      refine J_if_eq (tgt := 46) hC dX3_isRoot_39 (by decide) (fun c10 => ?_) (fun c10 => ?_)
      · refine J_iconst (v := 0) hC dX3_isRoot_46 (by decide) ?_
        refine J_sub [0, 1, 2] rfl ?_
        exact hj _ (if_pos c10).symm
      · refine J_iconst (v := 1) hC dX3_isRoot_42 (by decide) ?_
        refine J_goto (tgt := 47) hC dX3_isRoot_43 (by decide) ?_
        refine J_sub [0, 1, 2] rfl ?_
        exact hj _ (if_neg c10).symm
    · have h := ite_t c6 h
      refine J_aload_n (j := 0) hC dX3_isRoot_25 rfl ?_
      refine J_iconst (v := 2) hC dX3_isRoot_26 (by decide) ?_
      refine ck_c h (fun ho h => ?_)
      refine bnd_c h (fun w7 hw h => ?_)
      refine J_callV (As := [.int 2]) (M' := w7.1) (rv := some (Value.int w7.2)) (st := []) hC (fun l hl => cX3_fails_ok M1 a0 2 _ hw l hl) vm_X3_fails k_X3_79 ho ⟨rfl, rfl⟩ rfl ⟨Nat.le_of_ble_eq_true rfl, Nat.le_of_ble_eq_true rfl⟩ (Nat.zero_le _) ⟨Nat.le_of_ble_eq_true rfl, Nat.le_of_ble_eq_true rfl⟩ dX3_isRoot_27 rfl ?_
      refine J_goto (tgt := 47) hC dX3_isRoot_30 (by decide) ?_
      exact J_iret hC dX3_isRoot_47 (by have h9 := Option.some.inj h; subst h9; rfl) (Nat.le_of_ble_eq_true rfl) (Nat.le_of_ble_eq_true rfl)
  · have h := ite_t c3 h
    refine J_aload_n (j := 0) hC dX3_isRoot_12 rfl ?_
    refine J_iconst (v := 1) hC dX3_isRoot_13 (by decide) ?_
    refine ck_c h (fun ho h => ?_)
    refine bnd_c h (fun w4 hw h => ?_)
    refine J_callV (As := [.int 1]) (M' := w4.1) (rv := some (Value.int w4.2)) (st := []) hC (fun l hl => cX3_fails_ok M1 a0 1 _ hw l hl) vm_X3_fails k_X3_79 ho ⟨rfl, rfl⟩ rfl ⟨Nat.le_of_ble_eq_true rfl, Nat.le_of_ble_eq_true rfl⟩ (Nat.zero_le _) ⟨Nat.le_of_ble_eq_true rfl, Nat.le_of_ble_eq_true rfl⟩ dX3_isRoot_14 rfl ?_
    exact J_iret hC dX3_isRoot_17 (by have h9 := Option.some.inj h; subst h9; rfl) (Nat.le_of_ble_eq_true rfl) (Nat.le_of_ble_eq_true rfl)
abbrev rm_X3_times : Room := { frames := 3, cells := 0, slots := 0, locals := 68 }

set_option maxHeartbeats 4000000 in
set_option maxRecDepth 100000 in
theorem cX3_times_ok (M : Mem) (a0 : Option Nat) (a1 : Int32) (a2 : Int32) (a3 : Int32) (r0 : Mem × Int32) (h : fX3_times M a0 a1 a2 a3 = some r0) : ∀ l : Launch, l.stackTraces = false → Con false l yX3_times cX3_times 4 (some .int) rm_X3_times [rf a0, .int a1, .int a2, .int a3] M (r0.1, Sum.inr (some (Value.int r0.2))) := by
  intro l hst
  refine Con.enter hst (own := RX3) (by decide +kernel) rfl (by exact Nat.le_of_ble_eq_true rfl) (lv0 := [(0, rf a0), (1, .int a1), (2, .int a2), (3, .int a3)]) (rfl) (fun C hC hin => ?_)
  unfold fX3_times at h
  refine J_aload_n (j := 0) hC dX3_times_0 rfl ?_
  refine J_iconst (v := 0) hC dX3_times_1 (by decide) ?_
  refine J_p3_0 hC k_X3_36 dX3_times_2 h (fun M1 _ h => ?_)
  refine J_iload_n (j := 1) hC dX3_times_5 rfl ?_
  refine bnd_c h (fun w2 hw h => ?_)
  refine J_callS (As := [.int a1]) (M' := M1) (rv := some (Value.int w2)) (st := []) hC (fun l hl => cX3_isPoly_ok M1 a1 _ hw l hl) sm_X3_isPoly k_X3_75 rfl ⟨Nat.le_of_ble_eq_true rfl, Nat.le_of_ble_eq_true rfl⟩ (Nat.zero_le _) ⟨Nat.le_of_ble_eq_true rfl, Nat.le_of_ble_eq_true rfl⟩ dX3_times_6 rfl ?_
  refine J_if_ne (tgt := 18) hC dX3_times_9 (by decide) (fun c3 => ?_) (fun c3 => ?_)
  · have h := ite_f c3 h
    refine J_iload_n (j := 2) hC dX3_times_18 rfl ?_
    refine bnd_c h (fun w5 hw h => ?_)
    refine J_callS (As := [.int a2]) (M' := M1) (rv := some (Value.int w5)) (st := []) hC (fun l hl => cX3_isSign_ok M1 a2 _ hw l hl) sm_X3_isSign k_X3_82 rfl ⟨Nat.le_of_ble_eq_true rfl, Nat.le_of_ble_eq_true rfl⟩ (Nat.zero_le _) ⟨Nat.le_of_ble_eq_true rfl, Nat.le_of_ble_eq_true rfl⟩ dX3_times_19 rfl ?_
    refine J_if_eq (tgt := 43) hC dX3_times_22 (by decide) (fun c6 => ?_) (fun c6 => ?_)
    · have h := ite_t c6 h
      refine J_aload_n (j := 0) hC dX3_times_43 rfl ?_
      refine J_iconst (v := 2) hC dX3_times_44 (by decide) ?_
      refine ck_c h (fun ho h => ?_)
      refine bnd_c h (fun w7 hw h => ?_)
      refine J_callV (As := [.int 2]) (M' := w7.1) (rv := some (Value.int w7.2)) (st := []) hC (fun l hl => cX3_fails_ok M1 a0 2 _ hw l hl) vm_X3_fails k_X3_79 ho ⟨rfl, rfl⟩ rfl ⟨Nat.le_of_ble_eq_true rfl, Nat.le_of_ble_eq_true rfl⟩ (Nat.zero_le _) ⟨Nat.le_of_ble_eq_true rfl, Nat.le_of_ble_eq_true rfl⟩ dX3_times_45 rfl ?_
      exact J_iret hC dX3_times_48 (by have h9 := Option.some.inj h; subst h9; rfl) (Nat.le_of_ble_eq_true rfl) (Nat.le_of_ble_eq_true rfl)
    · have h := ite_f c6 h
      refine J_iload_n (j := 3) hC dX3_times_25 rfl ?_
      refine J_iconst (v := 0) hC dX3_times_26 (by decide) ?_
      refine J_iconst (v := 1) hC dX3_times_27 (by decide) ?_
      refine bnd_c h (fun w8 hw h => ?_)
      refine J_callS (As := [.int a3, .int 0, .int 1]) (M' := M1) (rv := some (Value.int w8)) (st := []) hC (fun l hl => cX3_in_ok M1 a3 0 1 _ hw l hl) sm_X3_in k_X3_40 rfl ⟨Nat.le_of_ble_eq_true rfl, Nat.le_of_ble_eq_true rfl⟩ (Nat.zero_le _) ⟨Nat.le_of_ble_eq_true rfl, Nat.le_of_ble_eq_true rfl⟩ dX3_times_28 rfl ?_
      refine J_if_eq (tgt := 43) hC dX3_times_31 (by decide) (fun c9 => ?_) (fun c9 => ?_)
      · have h := ite_t c9 h
        refine J_aload_n (j := 0) hC dX3_times_43 rfl ?_
        refine J_iconst (v := 2) hC dX3_times_44 (by decide) ?_
        refine ck_c h (fun ho h => ?_)
        refine bnd_c h (fun w10 hw h => ?_)
        refine J_callV (As := [.int 2]) (M' := w10.1) (rv := some (Value.int w10.2)) (st := []) hC (fun l hl => cX3_fails_ok M1 a0 2 _ hw l hl) vm_X3_fails k_X3_79 ho ⟨rfl, rfl⟩ rfl ⟨Nat.le_of_ble_eq_true rfl, Nat.le_of_ble_eq_true rfl⟩ (Nat.zero_le _) ⟨Nat.le_of_ble_eq_true rfl, Nat.le_of_ble_eq_true rfl⟩ dX3_times_45 rfl ?_
        exact J_iret hC dX3_times_48 (by have h9 := Option.some.inj h; subst h9; rfl) (Nat.le_of_ble_eq_true rfl) (Nat.le_of_ble_eq_true rfl)
      · have h := ite_f c9 h
        refine J_aload_n (j := 0) hC dX3_times_34 rfl ?_
        refine J_iload_n (j := 1) hC dX3_times_35 rfl ?_
        refine J_iload_n (j := 2) hC dX3_times_36 rfl ?_
        refine ck_c h (fun ho h => ?_)
        refine bnd_c h (fun w11 hw h => ?_)
        refine J_callV (As := [.int a1, .int a2]) (M' := w11.1) (rv := some (Value.int w11.2)) (st := []) hC (fun l hl => cX3_often_ok M1 a0 a1 a2 _ hw l hl) vm_X3_often k_X3_107 ho ⟨rfl, rfl⟩ rfl ⟨Nat.le_of_ble_eq_true rfl, Nat.le_of_ble_eq_true rfl⟩ (Nat.zero_le _) ⟨Nat.le_of_ble_eq_true rfl, Nat.le_of_ble_eq_true rfl⟩ dX3_times_37 rfl ?_
        refine J_goto (tgt := 48) hC dX3_times_40 (by decide) ?_
        exact J_iret hC dX3_times_48 (by have h9 := Option.some.inj h; subst h9; rfl) (Nat.le_of_ble_eq_true rfl) (Nat.le_of_ble_eq_true rfl)
  · have h := ite_t c3 h
    refine J_aload_n (j := 0) hC dX3_times_12 rfl ?_
    refine J_iconst (v := 1) hC dX3_times_13 (by decide) ?_
    refine ck_c h (fun ho h => ?_)
    refine bnd_c h (fun w4 hw h => ?_)
    refine J_callV (As := [.int 1]) (M' := w4.1) (rv := some (Value.int w4.2)) (st := []) hC (fun l hl => cX3_fails_ok M1 a0 1 _ hw l hl) vm_X3_fails k_X3_79 ho ⟨rfl, rfl⟩ rfl ⟨Nat.le_of_ble_eq_true rfl, Nat.le_of_ble_eq_true rfl⟩ (Nat.zero_le _) ⟨Nat.le_of_ble_eq_true rfl, Nat.le_of_ble_eq_true rfl⟩ dX3_times_14 rfl ?_
    exact J_iret hC dX3_times_17 (by have h9 := Option.some.inj h; subst h9; rfl) (Nat.le_of_ble_eq_true rfl) (Nat.le_of_ble_eq_true rfl)
abbrev rm_X3_quotients : Room := { frames := 3, cells := 0, slots := 0, locals := 76 }

set_option maxHeartbeats 4000000 in
set_option maxRecDepth 100000 in
theorem cX3_quotients_ok (M : Mem) (a0 : Option Nat) (a1 : Int32) (a2 : Int32) (r0 : Mem × Int32) (h : fX3_quotients M a0 a1 a2 = some r0) : ∀ l : Launch, l.stackTraces = false → Con false l yX3_quotients cX3_quotients 3 (some .int) rm_X3_quotients [rf a0, .int a1, .int a2] M (r0.1, Sum.inr (some (Value.int r0.2))) := by
  intro l hst
  refine Con.enter hst (own := RX3) (by decide +kernel) rfl (by exact Nat.le_of_ble_eq_true rfl) (lv0 := [(0, rf a0), (1, .int a1), (2, .int a2)]) (rfl) (fun C hC hin => ?_)
  unfold fX3_quotients at h
  refine J_aload_n (j := 0) hC dX3_quotients_0 rfl ?_
  refine J_iconst (v := 0) hC dX3_quotients_1 (by decide) ?_
  refine J_p3_0 hC k_X3_36 dX3_quotients_2 h (fun M1 _ h => ?_)
  refine J_iload_n (j := 1) hC dX3_quotients_5 rfl ?_
  refine bnd_c h (fun w2 hw h => ?_)
  refine J_callS (As := [.int a1]) (M' := M1) (rv := some (Value.int w2)) (st := []) hC (fun l hl => cX3_isPoly_ok M1 a1 _ hw l hl) sm_X3_isPoly k_X3_75 rfl ⟨Nat.le_of_ble_eq_true rfl, Nat.le_of_ble_eq_true rfl⟩ (Nat.zero_le _) ⟨Nat.le_of_ble_eq_true rfl, Nat.le_of_ble_eq_true rfl⟩ dX3_quotients_6 rfl ?_
  refine J_if_ne (tgt := 18) hC dX3_quotients_9 (by decide) (fun c3 => ?_) (fun c3 => ?_)
  · have h := ite_f c3 h
    refine J_iload_n (j := 2) hC dX3_quotients_18 rfl ?_
    refine bnd_c h (fun w5 hw h => ?_)
    refine J_callS (As := [.int a2]) (M' := M1) (rv := some (Value.int w5)) (st := []) hC (fun l hl => cX3_isSign_ok M1 a2 _ hw l hl) sm_X3_isSign k_X3_82 rfl ⟨Nat.le_of_ble_eq_true rfl, Nat.le_of_ble_eq_true rfl⟩ (Nat.zero_le _) ⟨Nat.le_of_ble_eq_true rfl, Nat.le_of_ble_eq_true rfl⟩ dX3_quotients_19 rfl ?_
    refine J_if_eq (tgt := 34) hC dX3_quotients_22 (by decide) (fun c6 => ?_) (fun c6 => ?_)
    · have h := ite_t c6 h
      refine J_aload_n (j := 0) hC dX3_quotients_34 rfl ?_
      refine J_iconst (v := 2) hC dX3_quotients_35 (by decide) ?_
      refine ck_c h (fun ho h => ?_)
      refine bnd_c h (fun w7 hw h => ?_)
      refine J_callV (As := [.int 2]) (M' := w7.1) (rv := some (Value.int w7.2)) (st := []) hC (fun l hl => cX3_fails_ok M1 a0 2 _ hw l hl) vm_X3_fails k_X3_79 ho ⟨rfl, rfl⟩ rfl ⟨Nat.le_of_ble_eq_true rfl, Nat.le_of_ble_eq_true rfl⟩ (Nat.zero_le _) ⟨Nat.le_of_ble_eq_true rfl, Nat.le_of_ble_eq_true rfl⟩ dX3_quotients_36 rfl ?_
      exact J_iret hC dX3_quotients_39 (by have h9 := Option.some.inj h; subst h9; rfl) (Nat.le_of_ble_eq_true rfl) (Nat.le_of_ble_eq_true rfl)
    · have h := ite_f c6 h
      refine J_aload_n (j := 0) hC dX3_quotients_25 rfl ?_
      refine J_iload_n (j := 1) hC dX3_quotients_26 rfl ?_
      refine J_iload_n (j := 2) hC dX3_quotients_27 rfl ?_
      refine ck_c h (fun ho h => ?_)
      refine bnd_c h (fun w8 hw h => ?_)
      refine J_callV (As := [.int a1, .int a2]) (M' := w8.1) (rv := some (Value.int w8.2)) (st := []) hC (fun l hl => cX3_divides_ok M1 a0 a1 a2 _ hw l hl) vm_X3_divides k_X3_91 ho ⟨rfl, rfl⟩ rfl ⟨Nat.le_of_ble_eq_true rfl, Nat.le_of_ble_eq_true rfl⟩ (Nat.zero_le _) ⟨Nat.le_of_ble_eq_true rfl, Nat.le_of_ble_eq_true rfl⟩ dX3_quotients_28 rfl ?_
      refine J_goto (tgt := 39) hC dX3_quotients_31 (by decide) ?_
      exact J_iret hC dX3_quotients_39 (by have h9 := Option.some.inj h; subst h9; rfl) (Nat.le_of_ble_eq_true rfl) (Nat.le_of_ble_eq_true rfl)
  · have h := ite_t c3 h
    refine J_aload_n (j := 0) hC dX3_quotients_12 rfl ?_
    refine J_iconst (v := 1) hC dX3_quotients_13 (by decide) ?_
    refine ck_c h (fun ho h => ?_)
    refine bnd_c h (fun w4 hw h => ?_)
    refine J_callV (As := [.int 1]) (M' := w4.1) (rv := some (Value.int w4.2)) (st := []) hC (fun l hl => cX3_fails_ok M1 a0 1 _ hw l hl) vm_X3_fails k_X3_79 ho ⟨rfl, rfl⟩ rfl ⟨Nat.le_of_ble_eq_true rfl, Nat.le_of_ble_eq_true rfl⟩ (Nat.zero_le _) ⟨Nat.le_of_ble_eq_true rfl, Nat.le_of_ble_eq_true rfl⟩ dX3_quotients_14 rfl ?_
    exact J_iret hC dX3_quotients_17 (by have h9 := Option.some.inj h; subst h9; rfl) (Nat.le_of_ble_eq_true rfl) (Nat.le_of_ble_eq_true rfl)
abbrev rm_X3_bestForm : Room := { frames := 3, cells := 0, slots := 0, locals := 76 }

set_option maxHeartbeats 4000000 in
set_option maxRecDepth 100000 in
theorem cX3_bestForm_ok (M : Mem) (a0 : Option Nat) (a1 : Int32) (a2 : Int32) (r0 : Mem × Int32) (h : fX3_bestForm M a0 a1 a2 = some r0) : ∀ l : Launch, l.stackTraces = false → Con false l yX3_bestForm cX3_bestForm 3 (some .int) rm_X3_bestForm [rf a0, .int a1, .int a2] M (r0.1, Sum.inr (some (Value.int r0.2))) := by
  intro l hst
  refine Con.enter hst (own := RX3) (by decide +kernel) rfl (by exact Nat.le_of_ble_eq_true rfl) (lv0 := [(0, rf a0), (1, .int a1), (2, .int a2)]) (rfl) (fun C hC hin => ?_)
  unfold fX3_bestForm at h
  refine J_aload_n (j := 0) hC dX3_bestForm_0 rfl ?_
  refine J_iload_n (j := 1) hC dX3_bestForm_1 rfl ?_
  refine J_iload_n (j := 2) hC dX3_bestForm_2 rfl ?_
  refine ck_c h (fun ho h => ?_)
  refine bnd_c h (fun w1 hw h => ?_)
  refine J_callV (As := [.int a1, .int a2]) (M' := w1.1) (rv := some (Value.int w1.2)) (st := []) hC (fun l hl => cX3_divides_ok M a0 a1 a2 _ hw l hl) vm_X3_divides k_X3_91 ho ⟨rfl, rfl⟩ rfl ⟨Nat.le_of_ble_eq_true rfl, Nat.le_of_ble_eq_true rfl⟩ (Nat.zero_le _) ⟨Nat.le_of_ble_eq_true rfl, Nat.le_of_ble_eq_true rfl⟩ dX3_bestForm_3 rfl ?_
  refine J_if_ne (tgt := 14) hC dX3_bestForm_6 (by decide) (fun c2 => ?_) (fun c2 => ?_)
  · have h := ite_f c2 h
    refine J_aload_n (j := 0) hC dX3_bestForm_14 rfl ?_
    refine J_g3_9 hC k_X3_29 dX3_bestForm_15 h (fun v3 _ h => ?_)
    refine bnd_c h (fun w4 hw h => ?_)
    refine J_callS (As := [rf v3]) (M' := w1.1) (rv := some (Value.int w4)) (st := []) hC (fun l hl => cX3_form_ok w1.1 v3 _ hw l hl) sm_X3_form k_X3_110 rfl ⟨Nat.le_of_ble_eq_true rfl, Nat.le_of_ble_eq_true rfl⟩ (Nat.zero_le _) ⟨Nat.le_of_ble_eq_true rfl, Nat.le_of_ble_eq_true rfl⟩ dX3_bestForm_18 rfl ?_
    exact J_iret hC dX3_bestForm_21 (by have h9 := Option.some.inj h; subst h9; rfl) (Nat.le_of_ble_eq_true rfl) (Nat.le_of_ble_eq_true rfl)
  · have h := ite_t c2 h
    refine J_bipush (v := (-9)) hC dX3_bestForm_9 (by decide) ?_
    refine J_goto (tgt := 21) hC dX3_bestForm_11 (by decide) ?_
    exact J_iret hC dX3_bestForm_21 (by have h9 := Option.some.inj h; subst h9; rfl) (Nat.le_of_ble_eq_true rfl) (Nat.le_of_ble_eq_true rfl)
abbrev rm_X3_best : Room := { frames := 4, cells := 0, slots := 0, locals := 98 }

set_option maxHeartbeats 4000000 in
set_option maxRecDepth 100000 in
theorem cX3_best_ok (M : Mem) (a0 : Option Nat) (a1 : Int32) (a2 : Int32) (r0 : Mem × Int32) (h : fX3_best M a0 a1 a2 = some r0) : ∀ l : Launch, l.stackTraces = false → Con false l yX3_best cX3_best 3 (some .int) rm_X3_best [rf a0, .int a1, .int a2] M (r0.1, Sum.inr (some (Value.int r0.2))) := by
  intro l hst
  refine Con.enter hst (own := RX3) (by decide +kernel) rfl (by exact Nat.le_of_ble_eq_true rfl) (lv0 := [(0, rf a0), (1, .int a1), (2, .int a2)]) (rfl) (fun C hC hin => ?_)
  unfold fX3_best at h
  refine J_aload_n (j := 0) hC dX3_best_0 rfl ?_
  refine J_iconst (v := 0) hC dX3_best_1 (by decide) ?_
  refine J_p3_0 hC k_X3_36 dX3_best_2 h (fun M1 _ h => ?_)
  refine J_iload_n (j := 1) hC dX3_best_5 rfl ?_
  refine bnd_c h (fun w2 hw h => ?_)
  refine J_callS (As := [.int a1]) (M' := M1) (rv := some (Value.int w2)) (st := []) hC (fun l hl => cX3_isPoly_ok M1 a1 _ hw l hl) sm_X3_isPoly k_X3_75 rfl ⟨Nat.le_of_ble_eq_true rfl, Nat.le_of_ble_eq_true rfl⟩ (Nat.zero_le _) ⟨Nat.le_of_ble_eq_true rfl, Nat.le_of_ble_eq_true rfl⟩ dX3_best_6 rfl ?_
  refine J_if_ne (tgt := 18) hC dX3_best_9 (by decide) (fun c3 => ?_) (fun c3 => ?_)
  · have h := ite_f c3 h
    refine J_iload_n (j := 2) hC dX3_best_18 rfl ?_
    refine bnd_c h (fun w5 hw h => ?_)
    refine J_callS (As := [.int a2]) (M' := M1) (rv := some (Value.int w5)) (st := []) hC (fun l hl => cX3_isSign_ok M1 a2 _ hw l hl) sm_X3_isSign k_X3_82 rfl ⟨Nat.le_of_ble_eq_true rfl, Nat.le_of_ble_eq_true rfl⟩ (Nat.zero_le _) ⟨Nat.le_of_ble_eq_true rfl, Nat.le_of_ble_eq_true rfl⟩ dX3_best_19 rfl ?_
    refine J_if_eq (tgt := 34) hC dX3_best_22 (by decide) (fun c6 => ?_) (fun c6 => ?_)
    · have h := ite_t c6 h
      refine J_aload_n (j := 0) hC dX3_best_34 rfl ?_
      refine J_iconst (v := 2) hC dX3_best_35 (by decide) ?_
      refine ck_c h (fun ho h => ?_)
      refine bnd_c h (fun w7 hw h => ?_)
      refine J_callV (As := [.int 2]) (M' := w7.1) (rv := some (Value.int w7.2)) (st := []) hC (fun l hl => cX3_fails_ok M1 a0 2 _ hw l hl) vm_X3_fails k_X3_79 ho ⟨rfl, rfl⟩ rfl ⟨Nat.le_of_ble_eq_true rfl, Nat.le_of_ble_eq_true rfl⟩ (Nat.zero_le _) ⟨Nat.le_of_ble_eq_true rfl, Nat.le_of_ble_eq_true rfl⟩ dX3_best_36 rfl ?_
      exact J_iret hC dX3_best_39 (by have h9 := Option.some.inj h; subst h9; rfl) (Nat.le_of_ble_eq_true rfl) (Nat.le_of_ble_eq_true rfl)
    · have h := ite_f c6 h
      refine J_aload_n (j := 0) hC dX3_best_25 rfl ?_
      refine J_iload_n (j := 1) hC dX3_best_26 rfl ?_
      refine J_iload_n (j := 2) hC dX3_best_27 rfl ?_
      refine ck_c h (fun ho h => ?_)
      refine bnd_c h (fun w8 hw h => ?_)
      refine J_callV (As := [.int a1, .int a2]) (M' := w8.1) (rv := some (Value.int w8.2)) (st := []) hC (fun l hl => cX3_bestForm_ok M1 a0 a1 a2 _ hw l hl) vm_X3_bestForm k_X3_121 ho ⟨rfl, rfl⟩ rfl ⟨Nat.le_of_ble_eq_true rfl, Nat.le_of_ble_eq_true rfl⟩ (Nat.zero_le _) ⟨Nat.le_of_ble_eq_true rfl, Nat.le_of_ble_eq_true rfl⟩ dX3_best_28 rfl ?_
      refine J_goto (tgt := 39) hC dX3_best_31 (by decide) ?_
      exact J_iret hC dX3_best_39 (by have h9 := Option.some.inj h; subst h9; rfl) (Nat.le_of_ble_eq_true rfl) (Nat.le_of_ble_eq_true rfl)
  · have h := ite_t c3 h
    refine J_aload_n (j := 0) hC dX3_best_12 rfl ?_
    refine J_iconst (v := 1) hC dX3_best_13 (by decide) ?_
    refine ck_c h (fun ho h => ?_)
    refine bnd_c h (fun w4 hw h => ?_)
    refine J_callV (As := [.int 1]) (M' := w4.1) (rv := some (Value.int w4.2)) (st := []) hC (fun l hl => cX3_fails_ok M1 a0 1 _ hw l hl) vm_X3_fails k_X3_79 ho ⟨rfl, rfl⟩ rfl ⟨Nat.le_of_ble_eq_true rfl, Nat.le_of_ble_eq_true rfl⟩ (Nat.zero_le _) ⟨Nat.le_of_ble_eq_true rfl, Nat.le_of_ble_eq_true rfl⟩ dX3_best_14 rfl ?_
    exact J_iret hC dX3_best_17 (by have h9 := Option.some.inj h; subst h9; rfl) (Nat.le_of_ble_eq_true rfl) (Nat.le_of_ble_eq_true rfl)
abbrev rm_X3_hasProduct : Room := { frames := 1, cells := 0, slots := 0, locals := 22 }

set_option maxHeartbeats 4000000 in
set_option maxRecDepth 100000 in
theorem tX3_hasProduct_6 {C : JC} {r0 : Int32} (M : Mem) (x0 : Option Nat) (x1 : Int32) (x2 : Int32) (x3 : Int32) (x4 : Int32) (hC : Ok C false cX3_hasProduct 7 rm_X3_hasProduct (some .boolean) RX3 (M, Sum.inr (some (Value.int r0))))  (k52 : Int32 → Int32 → Option (Int32)) (hk52 : ∀ (x5 : Int32) (x6 : Int32), k52 x5 x6 = some r0 → J C 0 0 M 52 [(0, rf x0), (1, .int x1), (2, .int x2), (3, .int x3), (4, .int x4), (5, .int x5), (6, .int x6)] []) : ∀ (n : Nat) (x5 : Int32) (x6 : Int32), fX3_hasProduct_6 M x0 x1 x2 x3 x4 k52 n x5 x6 = some r0 → J C 0 0 M 6 [(0, rf x0), (1, .int x1), (2, .int x2), (3, .int x3), (4, .int x4), (5, .int x5), (6, .int x6)] [] := by
  intro n
  induction n with
  | zero => intro x5 x6 h; have h : none = some r0 := h; cases h
  | succ n ih =>
    intro x5 x6 h
    rw [fX3_hasProduct_6] at h
    refine J_iload (j := 6) hC dX3_hasProduct_6 rfl ?_
    refine J_iload_n (j := 3) hC dX3_hasProduct_8 rfl ?_
    refine J_icmp_gt (tgt := 52) hC dX3_hasProduct_9 (by decide) (fun c1 => ?_) (fun c1 => ?_)
    · have h := ite_t c1 h
      refine J_sub [0, 1, 2, 3, 4, 5, 6] rfl ?_
      exact hk52 x5 x6 h
    · have h := ite_f c1 h
      refine J_iload (j := 5) hC dX3_hasProduct_12 rfl ?_
      refine J_if_ne (tgt := 39) hC dX3_hasProduct_14 (by decide) (fun c2 => ?_) (fun c2 => ?_)
      · have h := ite_f c2 h
        refine J_iconst (v := 1) hC dX3_hasProduct_39 (by decide) ?_
        refine J_goto (tgt := 44) hC dX3_hasProduct_40 (by decide) ?_
        refine J_istore (lv' := [(5, .int 1), (0, rf x0), (1, .int x1), (2, .int x2), (3, .int x3), (4, .int x4), (6, .int x6)]) hC dX3_hasProduct_44 (by decide) rfl ?_
        refine J_inc (j := 6) (k := 1) (lv' := [(6, .int (x6 + 1)), (5, .int 1), (0, rf x0), (1, .int x1), (2, .int x2), (3, .int x3), (4, .int x4)]) hC dX3_hasProduct_46 (by decide) rfl (by decide) rfl ?_
        refine J_goto (tgt := 6) hC dX3_hasProduct_49 (by decide) ?_
        refine J_sub [2, 3, 4, 5, 6, 1, 0] rfl ?_
        exact ih 1 (x6 + 1) h
      · have h := ite_t c2 h
        refine J_aload_n (j := 0) hC dX3_hasProduct_17 rfl ?_
        refine J_iload_n (j := 1) hC dX3_hasProduct_18 rfl ?_
        refine J_iload (j := 6) hC dX3_hasProduct_19 rfl ?_
        refine ck_c h (fun ho h => ?_)
        refine bnd_c h (fun w3 hw h => ?_)
        refine J_callV (As := [.int x1, .int x6]) (M' := M) (rv := some (Value.int w3)) (st := []) hC (fun l hl => cX3_signAt_ok M x0 x1 x6 _ hw l hl) vm_X3_signAt k_X3_44 ho ⟨rfl, rfl⟩ rfl ⟨Nat.le_of_ble_eq_true rfl, Nat.le_of_ble_eq_true rfl⟩ (Nat.zero_le _) ⟨Nat.le_of_ble_eq_true rfl, Nat.le_of_ble_eq_true rfl⟩ dX3_hasProduct_21 rfl ?_
        refine J_aload_n (j := 0) hC dX3_hasProduct_24 rfl ?_
        refine J_iload_n (j := 2) hC dX3_hasProduct_25 rfl ?_
        refine J_iload_n (j := 3) hC dX3_hasProduct_26 rfl ?_
        refine J_iload (j := 6) hC dX3_hasProduct_27 rfl ?_
        refine J_isub hC dX3_hasProduct_29 ?_
        refine ck_c h (fun ho h => ?_)
        refine bnd_c h (fun w4 hw h => ?_)
        refine J_callV (As := [.int x2, .int (x3 - x6)]) (M' := M) (rv := some (Value.int w4)) (st := [.int w3]) hC (fun l hl => cX3_signAt_ok M x0 x2 (x3 - x6) _ hw l hl) vm_X3_signAt k_X3_44 ho ⟨rfl, rfl⟩ rfl ⟨Nat.le_of_ble_eq_true rfl, Nat.le_of_ble_eq_true rfl⟩ (Nat.le_of_ble_eq_true rfl) ⟨Nat.le_of_ble_eq_true rfl, Nat.le_of_ble_eq_true rfl⟩ dX3_hasProduct_30 rfl ?_
        refine J_imul hC dX3_hasProduct_33 ?_
        refine J_iload (j := 4) hC dX3_hasProduct_34 rfl ?_
        have hj : ∀ (z5 : Int32), z5 = (if (w3 * w4) = x4 then 1 else 0) → J C 0 0 M 44 [(0, rf x0), (1, .int x1), (2, .int x2), (3, .int x3), (4, .int x4), (5, .int x5), (6, .int x6)] [.int z5] := by
          intro z5 ez5
          subst ez5
          refine J_istore (lv' := [(5, .int (if (w3 * w4) = x4 then 1 else 0)), (0, rf x0), (1, .int x1), (2, .int x2), (3, .int x3), (4, .int x4), (6, .int x6)]) hC dX3_hasProduct_44 (by decide) rfl ?_
          refine J_inc (j := 6) (k := 1) (lv' := [(6, .int (x6 + 1)), (5, .int (if (w3 * w4) = x4 then 1 else 0)), (0, rf x0), (1, .int x1), (2, .int x2), (3, .int x3), (4, .int x4)]) hC dX3_hasProduct_46 (by decide) rfl (by decide) rfl ?_
          refine J_goto (tgt := 6) hC dX3_hasProduct_49 (by decide) ?_
          refine J_sub [2, 3, 4, 5, 6, 1, 0] rfl ?_
          exact ih (if (w3 * w4) = x4 then 1 else 0) (x6 + 1) h
        refine J_icmp_ne (tgt := 43) hC dX3_hasProduct_36 (by decide) (fun c6 => ?_) (fun c6 => ?_)
        · refine J_iconst (v := 0) hC dX3_hasProduct_43 (by decide) ?_
          refine J_sub [0, 1, 2, 3, 4, 5, 6] rfl ?_
          exact hj _ (if_neg c6).symm
        · refine J_iconst (v := 1) hC dX3_hasProduct_39 (by decide) ?_
          refine J_goto (tgt := 44) hC dX3_hasProduct_40 (by decide) ?_
          refine J_sub [0, 1, 2, 3, 4, 5, 6] rfl ?_
          exact hj _ (if_pos c6).symm
set_option maxHeartbeats 4000000 in
set_option maxRecDepth 100000 in
theorem cX3_hasProduct_ok (M : Mem) (a0 : Option Nat) (a1 : Int32) (a2 : Int32) (a3 : Int32) (a4 : Int32) (r0 : Int32) (h : fX3_hasProduct M a0 a1 a2 a3 a4 = some r0) : ∀ l : Launch, l.stackTraces = false → Con false l yX3_hasProduct cX3_hasProduct 7 (some .boolean) rm_X3_hasProduct [rf a0, .int a1, .int a2, .int a3, .int a4] M (M, Sum.inr (some (Value.int r0))) := by
  intro l hst
  refine Con.enter hst (own := RX3) (by decide +kernel) rfl (by exact Nat.le_of_ble_eq_true rfl) (lv0 := [(0, rf a0), (1, .int a1), (2, .int a2), (3, .int a3), (4, .int a4)]) (rfl) (fun C hC hin => ?_)
  unfold fX3_hasProduct at h
  refine J_iconst (v := 0) hC dX3_hasProduct_0 (by decide) ?_
  refine J_istore (lv' := [(5, .int 0), (0, rf a0), (1, .int a1), (2, .int a2), (3, .int a3), (4, .int a4)]) hC dX3_hasProduct_1 (by decide) rfl ?_
  refine J_iconst (v := 0) hC dX3_hasProduct_3 (by decide) ?_
  refine J_istore (lv' := [(6, .int 0), (5, .int 0), (0, rf a0), (1, .int a1), (2, .int a2), (3, .int a3), (4, .int a4)]) hC dX3_hasProduct_4 (by decide) rfl ?_
  refine J_sub [2, 3, 4, 5, 6, 1, 0] rfl ?_
  refine tX3_hasProduct_6 M a0 a1 a2 a3 a4 hC _ (fun x7 x8 h => ?_) FU 0 0 h
  · refine J_iload (j := 5) hC dX3_hasProduct_52 rfl ?_
    refine chk_c h (fun hz h => ?_)
    exact J_zret hC dX3_hasProduct_54 (zb_nar hz) (by have h9 := Option.some.inj h; subst h9; rfl) (Nat.le_of_ble_eq_true rfl) (Nat.le_of_ble_eq_true rfl)
abbrev rm_X3_isThree : Room := { frames := 2, cells := 0, slots := 0, locals := 48 }

set_option maxHeartbeats 4000000 in
set_option maxRecDepth 100000 in
theorem cX3_isThree_ok (M : Mem) (a0 : Option Nat) (a1 : Int32) (a2 : Int32) (a3 : Int32) (a4 : Int32) (r0 : Int32) (h : fX3_isThree M a0 a1 a2 a3 a4 = some r0) : ∀ l : Launch, l.stackTraces = false → Con false l yX3_isThree cX3_isThree 5 (some .boolean) rm_X3_isThree [rf a0, .int a1, .int a2, .int a3, .int a4] M (M, Sum.inr (some (Value.int r0))) := by
  intro l hst
  refine Con.enter hst (own := RX3) (by decide +kernel) rfl (by exact Nat.le_of_ble_eq_true rfl) (lv0 := [(0, rf a0), (1, .int a1), (2, .int a2), (3, .int a3), (4, .int a4)]) (rfl) (fun C hC hin => ?_)
  unfold fX3_isThree at h
  refine J_iload (j := 4) hC dX3_isThree_0 rfl ?_
  refine J_if_ne (tgt := 29) hC dX3_isThree_2 (by decide) (fun c1 => ?_) (fun c1 => ?_)
  · have h := ite_f c1 h
    refine J_aload_n (j := 0) hC dX3_isThree_29 rfl ?_
    refine J_iload_n (j := 1) hC dX3_isThree_30 rfl ?_
    refine J_iload_n (j := 2) hC dX3_isThree_31 rfl ?_
    refine J_iload_n (j := 3) hC dX3_isThree_32 rfl ?_
    refine J_iconst (v := 1) hC dX3_isThree_33 (by decide) ?_
    refine ck_c h (fun ho h => ?_)
    refine bnd_c h (fun w6 hw h => ?_)
    refine J_callV (As := [.int a1, .int a2, .int a3, .int 1]) (M' := M) (rv := some (Value.int w6)) (st := []) hC (fun l hl => cX3_hasProduct_ok M a0 a1 a2 a3 1 _ hw l hl) vm_X3_hasProduct k_X3_124 ho ⟨rfl, rfl⟩ rfl ⟨Nat.le_of_ble_eq_true rfl, Nat.le_of_ble_eq_true rfl⟩ (Nat.zero_le _) ⟨Nat.le_of_ble_eq_true rfl, Nat.le_of_ble_eq_true rfl⟩ dX3_isThree_34 rfl ?_
    refine J_if_eq (tgt := 55) hC dX3_isThree_37 (by decide) (fun c7 => ?_) (fun c7 => ?_)
    · have h := ite_t c7 h
      refine J_iconst (v := 0) hC dX3_isThree_55 (by decide) ?_
      exact J_zret hC dX3_isThree_56 (by decide) (by have h9 := Option.some.inj h; subst h9; rfl) (Nat.le_of_ble_eq_true rfl) (Nat.le_of_ble_eq_true rfl)
    · have h := ite_f c7 h
      refine J_aload_n (j := 0) hC dX3_isThree_40 rfl ?_
      refine J_iload_n (j := 1) hC dX3_isThree_41 rfl ?_
      refine J_iload_n (j := 2) hC dX3_isThree_42 rfl ?_
      refine J_iload_n (j := 3) hC dX3_isThree_43 rfl ?_
      refine J_iconst (v := (-1)) hC dX3_isThree_44 (by decide) ?_
      refine ck_c h (fun ho h => ?_)
      refine bnd_c h (fun w8 hw h => ?_)
      refine J_callV (As := [.int a1, .int a2, .int a3, .int (-1)]) (M' := M) (rv := some (Value.int w8)) (st := []) hC (fun l hl => cX3_hasProduct_ok M a0 a1 a2 a3 (-1) _ hw l hl) vm_X3_hasProduct k_X3_124 ho ⟨rfl, rfl⟩ rfl ⟨Nat.le_of_ble_eq_true rfl, Nat.le_of_ble_eq_true rfl⟩ (Nat.zero_le _) ⟨Nat.le_of_ble_eq_true rfl, Nat.le_of_ble_eq_true rfl⟩ dX3_isThree_45 rfl ?_
      have hj : ∀ (z9 : Int32), z9 = (if w8 = 0 then 0 else 1) → J C 0 0 M 56 [(0, rf a0), (1, .int a1), (2, .int a2), (3, .int a3), (4, .int a4)] [.int z9] := by
        intro z9 ez9
        subst ez9
        exact J_zret hC dX3_isThree_56 (by (repeat' split) <;> decide) (by have h9 := Option.some.inj h; subst h9; rfl) (Nat.le_of_ble_eq_true rfl) (Nat.le_of_ble_eq_true rfl)
      refine J_if_eq (tgt := 55) hC dX3_isThree_48 (by decide) (fun c10 => ?_) (fun c10 => ?_)
      · refine J_iconst (v := 0) hC dX3_isThree_55 (by decide) ?_
        refine J_sub [0, 1, 2, 3, 4] rfl ?_
        exact hj _ (if_pos c10).symm
      · refine J_iconst (v := 1) hC dX3_isThree_51 (by decide) ?_
        refine J_goto (tgt := 56) hC dX3_isThree_52 (by decide) ?_
        refine J_sub [0, 1, 2, 3, 4] rfl ?_
        exact hj _ (if_neg c10).symm
  · have h := ite_t c1 h
    refine J_aload_n (j := 0) hC dX3_isThree_5 rfl ?_
    refine J_iload_n (j := 1) hC dX3_isThree_6 rfl ?_
    refine J_iload_n (j := 3) hC dX3_isThree_7 rfl ?_
    refine ck_c h (fun ho h => ?_)
    refine bnd_c h (fun w2 hw h => ?_)
    refine J_callV (As := [.int a1, .int a3]) (M' := M) (rv := some (Value.int w2)) (st := []) hC (fun l hl => cX3_signAt_ok M a0 a1 a3 _ hw l hl) vm_X3_signAt k_X3_44 ho ⟨rfl, rfl⟩ rfl ⟨Nat.le_of_ble_eq_true rfl, Nat.le_of_ble_eq_true rfl⟩ (Nat.zero_le _) ⟨Nat.le_of_ble_eq_true rfl, Nat.le_of_ble_eq_true rfl⟩ dX3_isThree_8 rfl ?_
    refine J_aload_n (j := 0) hC dX3_isThree_11 rfl ?_
    refine J_iload_n (j := 2) hC dX3_isThree_12 rfl ?_
    refine J_iload_n (j := 3) hC dX3_isThree_13 rfl ?_
    refine ck_c h (fun ho h => ?_)
    refine bnd_c h (fun w3 hw h => ?_)
    refine J_callV (As := [.int a2, .int a3]) (M' := M) (rv := some (Value.int w3)) (st := [.int w2]) hC (fun l hl => cX3_signAt_ok M a0 a2 a3 _ hw l hl) vm_X3_signAt k_X3_44 ho ⟨rfl, rfl⟩ rfl ⟨Nat.le_of_ble_eq_true rfl, Nat.le_of_ble_eq_true rfl⟩ (Nat.le_of_ble_eq_true rfl) ⟨Nat.le_of_ble_eq_true rfl, Nat.le_of_ble_eq_true rfl⟩ dX3_isThree_14 rfl ?_
    refine J_imul hC dX3_isThree_17 ?_
    have hj : ∀ (z4 : Int32), z4 = (if 0 ≤ (w2 * w3) then 0 else 1) → J C 0 0 M 56 [(0, rf a0), (1, .int a1), (2, .int a2), (3, .int a3), (4, .int a4)] [.int z4] := by
      intro z4 ez4
      subst ez4
      exact J_zret hC dX3_isThree_56 (by (repeat' split) <;> decide) (by have h9 := Option.some.inj h; subst h9; rfl) (Nat.le_of_ble_eq_true rfl) (Nat.le_of_ble_eq_true rfl)
    refine J_if_ge (tgt := 25) hC dX3_isThree_18 (by decide) (fun c5 => ?_) (fun c5 => ?_)
    · refine J_iconst (v := 0) hC dX3_isThree_25 (by decide) ?_
      refine J_goto (tgt := 56) hC dX3_isThree_26 (by decide) ?_
      refine J_sub [0, 1, 2, 3, 4] rfl ?_
      exact hj _ (if_pos c5).symm
    · refine J_iconst (v := 1) hC dX3_isThree_21 (by decide) ?_
      refine J_goto (tgt := 56) hC dX3_isThree_22 (by decide) ?_
      refine J_sub [0, 1, 2, 3, 4] rfl ?_
      exact hj _ (if_neg c5).symm
abbrev rm_X3_only : Room := { frames := 2, cells := 0, slots := 0, locals := 48 }

set_option maxHeartbeats 4000000 in
set_option maxRecDepth 100000 in
theorem cX3_only_ok (M : Mem) (a0 : Option Nat) (a1 : Int32) (a2 : Int32) (a3 : Int32) (a4 : Int32) (r0 : Int32) (h : fX3_only M a0 a1 a2 a3 a4 = some r0) : ∀ l : Launch, l.stackTraces = false → Con false l yX3_only cX3_only 5 (some .int) rm_X3_only [rf a0, .int a1, .int a2, .int a3, .int a4] M (M, Sum.inr (some (Value.int r0))) := by
  intro l hst
  refine Con.enter hst (own := RX3) (by decide +kernel) rfl (by exact Nat.le_of_ble_eq_true rfl) (lv0 := [(0, rf a0), (1, .int a1), (2, .int a2), (3, .int a3), (4, .int a4)]) (rfl) (fun C hC hin => ?_)
  unfold fX3_only at h
  refine J_iload (j := 4) hC dX3_only_0 rfl ?_
  refine J_if_ne (tgt := 30) hC dX3_only_2 (by decide) (fun c1 => ?_) (fun c1 => ?_)
  · have h := ite_f c1 h
    refine J_aload_n (j := 0) hC dX3_only_30 rfl ?_
    refine J_iload_n (j := 1) hC dX3_only_31 rfl ?_
    refine J_iload_n (j := 2) hC dX3_only_32 rfl ?_
    refine J_iload_n (j := 3) hC dX3_only_33 rfl ?_
    refine J_iconst (v := 1) hC dX3_only_34 (by decide) ?_
    refine ck_c h (fun ho h => ?_)
    refine bnd_c h (fun w6 hw h => ?_)
    refine J_callV (As := [.int a1, .int a2, .int a3, .int 1]) (M' := M) (rv := some (Value.int w6)) (st := []) hC (fun l hl => cX3_hasProduct_ok M a0 a1 a2 a3 1 _ hw l hl) vm_X3_hasProduct k_X3_124 ho ⟨rfl, rfl⟩ rfl ⟨Nat.le_of_ble_eq_true rfl, Nat.le_of_ble_eq_true rfl⟩ (Nat.zero_le _) ⟨Nat.le_of_ble_eq_true rfl, Nat.le_of_ble_eq_true rfl⟩ dX3_only_35 rfl ?_
    refine J_if_eq (tgt := 45) hC dX3_only_38 (by decide) (fun c7 => ?_) (fun c7 => ?_)
    · have h := ite_t c7 h
      refine J_aload_n (j := 0) hC dX3_only_45 rfl ?_
      refine J_iload_n (j := 1) hC dX3_only_46 rfl ?_
      refine J_iload_n (j := 2) hC dX3_only_47 rfl ?_
      refine J_iload_n (j := 3) hC dX3_only_48 rfl ?_
      refine J_iconst (v := (-1)) hC dX3_only_49 (by decide) ?_
      refine ck_c h (fun ho h => ?_)
      refine bnd_c h (fun w8 hw h => ?_)
      refine J_callV (As := [.int a1, .int a2, .int a3, .int (-1)]) (M' := M) (rv := some (Value.int w8)) (st := []) hC (fun l hl => cX3_hasProduct_ok M a0 a1 a2 a3 (-1) _ hw l hl) vm_X3_hasProduct k_X3_124 ho ⟨rfl, rfl⟩ rfl ⟨Nat.le_of_ble_eq_true rfl, Nat.le_of_ble_eq_true rfl⟩ (Nat.zero_le _) ⟨Nat.le_of_ble_eq_true rfl, Nat.le_of_ble_eq_true rfl⟩ dX3_only_50 rfl ?_
      have hj : ∀ (z9 : Int32), z9 = (if w8 = 0 then 0 else (-1)) → J C 0 0 M 61 [(0, rf a0), (1, .int a1), (2, .int a2), (3, .int a3), (4, .int a4)] [.int z9] := by
        intro z9 ez9
        subst ez9
        exact J_iret hC dX3_only_61 (by have h9 := Option.some.inj h; subst h9; rfl) (Nat.le_of_ble_eq_true rfl) (Nat.le_of_ble_eq_true rfl)
      refine J_if_eq (tgt := 60) hC dX3_only_53 (by decide) (fun c10 => ?_) (fun c10 => ?_)
      · refine J_iconst (v := 0) hC dX3_only_60 (by decide) ?_
        refine J_sub [0, 1, 2, 3, 4] rfl ?_
        exact hj _ (if_pos c10).symm
      · refine J_iconst (v := (-1)) hC dX3_only_56 (by decide) ?_
        refine J_goto (tgt := 61) hC dX3_only_57 (by decide) ?_
        refine J_sub [0, 1, 2, 3, 4] rfl ?_
        exact hj _ (if_neg c10).symm
    · have h := ite_f c7 h
      refine J_iconst (v := 1) hC dX3_only_41 (by decide) ?_
      refine J_goto (tgt := 61) hC dX3_only_42 (by decide) ?_
      exact J_iret hC dX3_only_61 (by have h9 := Option.some.inj h; subst h9; rfl) (Nat.le_of_ble_eq_true rfl) (Nat.le_of_ble_eq_true rfl)
  · have h := ite_t c1 h
    refine J_aload_n (j := 0) hC dX3_only_5 rfl ?_
    refine J_iload_n (j := 1) hC dX3_only_6 rfl ?_
    refine J_iload_n (j := 3) hC dX3_only_7 rfl ?_
    refine ck_c h (fun ho h => ?_)
    refine bnd_c h (fun w2 hw h => ?_)
    refine J_callV (As := [.int a1, .int a3]) (M' := M) (rv := some (Value.int w2)) (st := []) hC (fun l hl => cX3_signAt_ok M a0 a1 a3 _ hw l hl) vm_X3_signAt k_X3_44 ho ⟨rfl, rfl⟩ rfl ⟨Nat.le_of_ble_eq_true rfl, Nat.le_of_ble_eq_true rfl⟩ (Nat.zero_le _) ⟨Nat.le_of_ble_eq_true rfl, Nat.le_of_ble_eq_true rfl⟩ dX3_only_8 rfl ?_
    refine J_if_ne (tgt := 23) hC dX3_only_11 (by decide) (fun c3 => ?_) (fun c3 => ?_)
    · have h := ite_f c3 h
      refine J_aload_n (j := 0) hC dX3_only_23 rfl ?_
      refine J_iload_n (j := 1) hC dX3_only_24 rfl ?_
      refine J_iload_n (j := 3) hC dX3_only_25 rfl ?_
      refine ck_c h (fun ho h => ?_)
      refine bnd_c h (fun w5 hw h => ?_)
      refine J_callV (As := [.int a1, .int a3]) (M' := M) (rv := some (Value.int w5)) (st := []) hC (fun l hl => cX3_signAt_ok M a0 a1 a3 _ hw l hl) vm_X3_signAt k_X3_44 ho ⟨rfl, rfl⟩ rfl ⟨Nat.le_of_ble_eq_true rfl, Nat.le_of_ble_eq_true rfl⟩ (Nat.zero_le _) ⟨Nat.le_of_ble_eq_true rfl, Nat.le_of_ble_eq_true rfl⟩ dX3_only_26 rfl ?_
      exact J_iret hC dX3_only_29 (by have h9 := Option.some.inj h; subst h9; rfl) (Nat.le_of_ble_eq_true rfl) (Nat.le_of_ble_eq_true rfl)
    · have h := ite_t c3 h
      refine J_aload_n (j := 0) hC dX3_only_14 rfl ?_
      refine J_iload_n (j := 2) hC dX3_only_15 rfl ?_
      refine J_iload_n (j := 3) hC dX3_only_16 rfl ?_
      refine ck_c h (fun ho h => ?_)
      refine bnd_c h (fun w4 hw h => ?_)
      refine J_callV (As := [.int a2, .int a3]) (M' := M) (rv := some (Value.int w4)) (st := []) hC (fun l hl => cX3_signAt_ok M a0 a2 a3 _ hw l hl) vm_X3_signAt k_X3_44 ho ⟨rfl, rfl⟩ rfl ⟨Nat.le_of_ble_eq_true rfl, Nat.le_of_ble_eq_true rfl⟩ (Nat.zero_le _) ⟨Nat.le_of_ble_eq_true rfl, Nat.le_of_ble_eq_true rfl⟩ dX3_only_17 rfl ?_
      refine J_goto (tgt := 29) hC dX3_only_20 (by decide) ?_
      exact J_iret hC dX3_only_29 (by have h9 := Option.some.inj h; subst h9; rfl) (Nat.le_of_ble_eq_true rfl) (Nat.le_of_ble_eq_true rfl)
abbrev rm_X3_isTooHigh : Room := { frames := 2, cells := 0, slots := 0, locals := 45 }

set_option maxHeartbeats 4000000 in
set_option maxRecDepth 100000 in
theorem cX3_isTooHigh_ok (M : Mem) (a0 : Option Nat) (a1 : Int32) (a2 : Int32) (a3 : Int32) (r0 : Int32) (h : fX3_isTooHigh M a0 a1 a2 a3 = some r0) : ∀ l : Launch, l.stackTraces = false → Con false l yX3_isTooHigh cX3_isTooHigh 4 (some .boolean) rm_X3_isTooHigh [rf a0, .int a1, .int a2, .int a3] M (M, Sum.inr (some (Value.int r0))) := by
  intro l hst
  refine Con.enter hst (own := RX3) (by decide +kernel) rfl (by exact Nat.le_of_ble_eq_true rfl) (lv0 := [(0, rf a0), (1, .int a1), (2, .int a2), (3, .int a3)]) (rfl) (fun C hC hin => ?_)
  unfold fX3_isTooHigh at h
  refine J_iload_n (j := 3) hC dX3_isTooHigh_0 rfl ?_
  refine J_iconst (v := 1) hC dX3_isTooHigh_1 (by decide) ?_
  refine J_icmp_ne (tgt := 25) hC dX3_isTooHigh_2 (by decide) (fun c1 => ?_) (fun c1 => ?_)
  · have h := ite_f c1 h
    refine J_iconst (v := 0) hC dX3_isTooHigh_25 (by decide) ?_
    exact J_zret hC dX3_isTooHigh_26 (by decide) (by have h9 := Option.some.inj h; subst h9; rfl) (Nat.le_of_ble_eq_true rfl) (Nat.le_of_ble_eq_true rfl)
  · have h := ite_t c1 h
    refine J_aload_n (j := 0) hC dX3_isTooHigh_5 rfl ?_
    refine J_iload_n (j := 1) hC dX3_isTooHigh_6 rfl ?_
    refine ck_c h (fun ho h => ?_)
    refine bnd_c h (fun w2 hw h => ?_)
    refine J_callV (As := [.int a1]) (M' := M) (rv := some (Value.int w2)) (st := []) hC (fun l hl => cX3_degree_ok M a0 a1 _ hw l hl) vm_X3_degree k_X3_51 ho ⟨rfl, rfl⟩ rfl ⟨Nat.le_of_ble_eq_true rfl, Nat.le_of_ble_eq_true rfl⟩ (Nat.zero_le _) ⟨Nat.le_of_ble_eq_true rfl, Nat.le_of_ble_eq_true rfl⟩ dX3_isTooHigh_7 rfl ?_
    refine J_aload_n (j := 0) hC dX3_isTooHigh_10 rfl ?_
    refine J_iload_n (j := 2) hC dX3_isTooHigh_11 rfl ?_
    refine ck_c h (fun ho h => ?_)
    refine bnd_c h (fun w3 hw h => ?_)
    refine J_callV (As := [.int a2]) (M' := M) (rv := some (Value.int w3)) (st := [.int w2]) hC (fun l hl => cX3_degree_ok M a0 a2 _ hw l hl) vm_X3_degree k_X3_51 ho ⟨rfl, rfl⟩ rfl ⟨Nat.le_of_ble_eq_true rfl, Nat.le_of_ble_eq_true rfl⟩ (Nat.le_of_ble_eq_true rfl) ⟨Nat.le_of_ble_eq_true rfl, Nat.le_of_ble_eq_true rfl⟩ dX3_isTooHigh_12 rfl ?_
    refine J_iadd hC dX3_isTooHigh_15 ?_
    refine J_bipush (v := 8) hC dX3_isTooHigh_16 (by decide) ?_
    have hj : ∀ (z4 : Int32), z4 = (if (w2 + w3) ≤ 8 then 0 else 1) → J C 0 0 M 26 [(0, rf a0), (1, .int a1), (2, .int a2), (3, .int a3)] [.int z4] := by
      intro z4 ez4
      subst ez4
      exact J_zret hC dX3_isTooHigh_26 (by (repeat' split) <;> decide) (by have h9 := Option.some.inj h; subst h9; rfl) (Nat.le_of_ble_eq_true rfl) (Nat.le_of_ble_eq_true rfl)
    refine J_icmp_le (tgt := 25) hC dX3_isTooHigh_18 (by decide) (fun c5 => ?_) (fun c5 => ?_)
    · refine J_iconst (v := 0) hC dX3_isTooHigh_25 (by decide) ?_
      refine J_sub [0, 1, 2, 3] rfl ?_
      exact hj _ (if_pos c5).symm
    · refine J_iconst (v := 1) hC dX3_isTooHigh_21 (by decide) ?_
      refine J_goto (tgt := 26) hC dX3_isTooHigh_22 (by decide) ?_
      refine J_sub [0, 1, 2, 3] rfl ?_
      exact hj _ (if_neg c5).symm
abbrev rm_X3_rows : Room := { frames := 3, cells := 0, slots := 0, locals := 72 }

set_option maxHeartbeats 4000000 in
set_option maxRecDepth 100000 in
theorem tX3_rows_19 {C : JC} {r0 : Int32} (M : Mem) (x0 : Option Nat) (x1 : Int32) (x2 : Int32) (x3 : Int32) (hC : Ok C false cX3_rows 6 rm_X3_rows (some .int) RX3 (M, Sum.inr (some (Value.int r0))))  (k54 : Int32 → Int32 → Option (Int32)) (hk54 : ∀ (x4 : Int32) (x5 : Int32), k54 x4 x5 = some r0 → J C 0 0 M 54 [(0, rf x0), (1, .int x1), (2, .int x2), (3, .int x3), (4, .int x4), (5, .int x5)] []) : ∀ (n : Nat) (x4 : Int32) (x5 : Int32), fX3_rows_19 M x0 x1 x2 x3 k54 n x4 x5 = some r0 → J C 0 0 M 19 [(0, rf x0), (1, .int x1), (2, .int x2), (3, .int x3), (4, .int x4), (5, .int x5)] [] := by
  intro n
  induction n with
  | zero => intro x4 x5 h; have h : none = some r0 := h; cases h
  | succ n ih =>
    intro x4 x5 h
    rw [fX3_rows_19] at h
    refine J_iload (j := 5) hC dX3_rows_19 rfl ?_
    refine J_bipush (v := 9) hC dX3_rows_21 (by decide) ?_
    refine J_icmp_ge (tgt := 54) hC dX3_rows_23 (by decide) (fun c3 => ?_) (fun c3 => ?_)
    · have h := ite_t c3 h
      refine J_sub [0, 1, 2, 3, 4, 5] rfl ?_
      exact hk54 x4 x5 h
    · have h := ite_f c3 h
      refine J_iload (j := 4) hC dX3_rows_26 rfl ?_
      refine J_aload_n (j := 0) hC dX3_rows_28 rfl ?_
      refine J_iload_n (j := 1) hC dX3_rows_29 rfl ?_
      refine J_iload_n (j := 2) hC dX3_rows_30 rfl ?_
      refine J_iload (j := 5) hC dX3_rows_31 rfl ?_
      refine J_iload_n (j := 3) hC dX3_rows_33 rfl ?_
      refine ck_c h (fun ho h => ?_)
      refine bnd_c h (fun w4 hw h => ?_)
      refine J_callV (As := [.int x1, .int x2, .int x5, .int x3]) (M' := M) (rv := some (Value.int w4)) (st := [.int x4]) hC (fun l hl => cX3_isThree_ok M x0 x1 x2 x5 x3 _ hw l hl) vm_X3_isThree k_X3_131 ho ⟨rfl, rfl⟩ rfl ⟨Nat.le_of_ble_eq_true rfl, Nat.le_of_ble_eq_true rfl⟩ (Nat.le_of_ble_eq_true rfl) ⟨Nat.le_of_ble_eq_true rfl, Nat.le_of_ble_eq_true rfl⟩ dX3_rows_34 rfl ?_
      have hj : ∀ (z5 : Int32), z5 = (if w4 = 0 then 1 else 3) → J C 0 0 M 45 [(0, rf x0), (1, .int x1), (2, .int x2), (3, .int x3), (4, .int x4), (5, .int x5)] [.int z5, .int x4] := by
        intro z5 ez5
        subst ez5
        refine J_imul hC dX3_rows_45 ?_
        refine J_istore (lv' := [(4, .int (x4 * (if w4 = 0 then 1 else 3))), (0, rf x0), (1, .int x1), (2, .int x2), (3, .int x3), (5, .int x5)]) hC dX3_rows_46 (by decide) rfl ?_
        refine J_inc (j := 5) (k := 1) (lv' := [(5, .int (x5 + 1)), (4, .int (x4 * (if w4 = 0 then 1 else 3))), (0, rf x0), (1, .int x1), (2, .int x2), (3, .int x3)]) hC dX3_rows_48 (by decide) rfl (by decide) rfl ?_
        refine J_goto (tgt := 19) hC dX3_rows_51 (by decide) ?_
        refine J_sub [2, 3, 4, 5, 1, 0] rfl ?_
        exact ih (x4 * (if w4 = 0 then 1 else 3)) (x5 + 1) h
      refine J_if_eq (tgt := 44) hC dX3_rows_37 (by decide) (fun c6 => ?_) (fun c6 => ?_)
      · refine J_iconst (v := 1) hC dX3_rows_44 (by decide) ?_
        refine J_sub [0, 1, 2, 3, 4, 5] rfl ?_
        exact hj _ (if_pos c6).symm
      · refine J_iconst (v := 3) hC dX3_rows_40 (by decide) ?_
        refine J_goto (tgt := 45) hC dX3_rows_41 (by decide) ?_
        refine J_sub [0, 1, 2, 3, 4, 5] rfl ?_
        exact hj _ (if_neg c6).symm
set_option maxHeartbeats 4000000 in
set_option maxRecDepth 100000 in
theorem cX3_rows_ok (M : Mem) (a0 : Option Nat) (a1 : Int32) (a2 : Int32) (a3 : Int32) (r0 : Int32) (h : fX3_rows M a0 a1 a2 a3 = some r0) : ∀ l : Launch, l.stackTraces = false → Con false l yX3_rows cX3_rows 6 (some .int) rm_X3_rows [rf a0, .int a1, .int a2, .int a3] M (M, Sum.inr (some (Value.int r0))) := by
  intro l hst
  refine Con.enter hst (own := RX3) (by decide +kernel) rfl (by exact Nat.le_of_ble_eq_true rfl) (lv0 := [(0, rf a0), (1, .int a1), (2, .int a2), (3, .int a3)]) (rfl) (fun C hC hin => ?_)
  unfold fX3_rows at h
  refine J_aload_n (j := 0) hC dX3_rows_0 rfl ?_
  refine J_iload_n (j := 1) hC dX3_rows_1 rfl ?_
  refine J_iload_n (j := 2) hC dX3_rows_2 rfl ?_
  refine J_iload_n (j := 3) hC dX3_rows_3 rfl ?_
  refine ck_c h (fun ho h => ?_)
  refine bnd_c h (fun w1 hw h => ?_)
  refine J_callV (As := [.int a1, .int a2, .int a3]) (M' := M) (rv := some (Value.int w1)) (st := []) hC (fun l hl => cX3_isTooHigh_ok M a0 a1 a2 a3 _ hw l hl) vm_X3_isTooHigh k_X3_128 ho ⟨rfl, rfl⟩ rfl ⟨Nat.le_of_ble_eq_true rfl, Nat.le_of_ble_eq_true rfl⟩ (Nat.zero_le _) ⟨Nat.le_of_ble_eq_true rfl, Nat.le_of_ble_eq_true rfl⟩ dX3_rows_4 rfl ?_
  refine J_if_eq (tgt := 13) hC dX3_rows_7 (by decide) (fun c2 => ?_) (fun c2 => ?_)
  · have h := ite_t c2 h
    refine J_iconst (v := 1) hC dX3_rows_13 (by decide) ?_
    refine J_istore (lv' := [(4, .int 1), (0, rf a0), (1, .int a1), (2, .int a2), (3, .int a3)]) hC dX3_rows_14 (by decide) rfl ?_
    refine J_iconst (v := 0) hC dX3_rows_16 (by decide) ?_
    refine J_istore (lv' := [(5, .int 0), (4, .int 1), (0, rf a0), (1, .int a1), (2, .int a2), (3, .int a3)]) hC dX3_rows_17 (by decide) rfl ?_
    refine J_sub [2, 3, 4, 5, 1, 0] rfl ?_
    refine tX3_rows_19 M a0 a1 a2 a3 hC _ (fun x7 x8 h => ?_) FU 1 0 h
    · refine J_iload (j := 4) hC dX3_rows_54 rfl ?_
      exact J_iret hC dX3_rows_56 (by have h9 := Option.some.inj h; subst h9; rfl) (Nat.le_of_ble_eq_true rfl) (Nat.le_of_ble_eq_true rfl)
  · have h := ite_f c2 h
    refine J_bipush (v := (-9)) hC dX3_rows_10 (by decide) ?_
    exact J_iret hC dX3_rows_12 (by have h9 := Option.some.inj h; subst h9; rfl) (Nat.le_of_ble_eq_true rfl) (Nat.le_of_ble_eq_true rfl)
abbrev rm_X3_many : Room := { frames := 4, cells := 0, slots := 0, locals := 97 }

set_option maxHeartbeats 4000000 in
set_option maxRecDepth 100000 in
theorem cX3_many_ok (M : Mem) (a0 : Option Nat) (a1 : Int32) (a2 : Int32) (a3 : Int32) (r0 : Mem × Int32) (h : fX3_many M a0 a1 a2 a3 = some r0) : ∀ l : Launch, l.stackTraces = false → Con false l yX3_many cX3_many 4 (some .int) rm_X3_many [rf a0, .int a1, .int a2, .int a3] M (r0.1, Sum.inr (some (Value.int r0.2))) := by
  intro l hst
  refine Con.enter hst (own := RX3) (by decide +kernel) rfl (by exact Nat.le_of_ble_eq_true rfl) (lv0 := [(0, rf a0), (1, .int a1), (2, .int a2), (3, .int a3)]) (rfl) (fun C hC hin => ?_)
  unfold fX3_many at h
  refine J_aload_n (j := 0) hC dX3_many_0 rfl ?_
  refine J_iconst (v := 0) hC dX3_many_1 (by decide) ?_
  refine J_p3_0 hC k_X3_36 dX3_many_2 h (fun M1 _ h => ?_)
  refine J_iload_n (j := 1) hC dX3_many_5 rfl ?_
  refine bnd_c h (fun w2 hw h => ?_)
  refine J_callS (As := [.int a1]) (M' := M1) (rv := some (Value.int w2)) (st := []) hC (fun l hl => cX3_isPoly_ok M1 a1 _ hw l hl) sm_X3_isPoly k_X3_75 rfl ⟨Nat.le_of_ble_eq_true rfl, Nat.le_of_ble_eq_true rfl⟩ (Nat.zero_le _) ⟨Nat.le_of_ble_eq_true rfl, Nat.le_of_ble_eq_true rfl⟩ dX3_many_6 rfl ?_
  refine J_if_eq (tgt := 19) hC dX3_many_9 (by decide) (fun c3 => ?_) (fun c3 => ?_)
  · have h := ite_t c3 h
    refine J_aload_n (j := 0) hC dX3_many_19 rfl ?_
    refine J_iconst (v := 1) hC dX3_many_20 (by decide) ?_
    refine ck_c h (fun ho h => ?_)
    refine bnd_c h (fun w4 hw h => ?_)
    refine J_callV (As := [.int 1]) (M' := w4.1) (rv := some (Value.int w4.2)) (st := []) hC (fun l hl => cX3_fails_ok M1 a0 1 _ hw l hl) vm_X3_fails k_X3_79 ho ⟨rfl, rfl⟩ rfl ⟨Nat.le_of_ble_eq_true rfl, Nat.le_of_ble_eq_true rfl⟩ (Nat.zero_le _) ⟨Nat.le_of_ble_eq_true rfl, Nat.le_of_ble_eq_true rfl⟩ dX3_many_21 rfl ?_
    exact J_iret hC dX3_many_24 (by have h9 := Option.some.inj h; subst h9; rfl) (Nat.le_of_ble_eq_true rfl) (Nat.le_of_ble_eq_true rfl)
  · have h := ite_f c3 h
    refine J_iload_n (j := 2) hC dX3_many_12 rfl ?_
    refine bnd_c h (fun w5 hw h => ?_)
    refine J_callS (As := [.int a2]) (M' := M1) (rv := some (Value.int w5)) (st := []) hC (fun l hl => cX3_isPoly_ok M1 a2 _ hw l hl) sm_X3_isPoly k_X3_75 rfl ⟨Nat.le_of_ble_eq_true rfl, Nat.le_of_ble_eq_true rfl⟩ (Nat.zero_le _) ⟨Nat.le_of_ble_eq_true rfl, Nat.le_of_ble_eq_true rfl⟩ dX3_many_13 rfl ?_
    refine J_if_ne (tgt := 25) hC dX3_many_16 (by decide) (fun c6 => ?_) (fun c6 => ?_)
    · have h := ite_f c6 h
      refine J_iload_n (j := 3) hC dX3_many_25 rfl ?_
      refine J_iconst (v := 0) hC dX3_many_26 (by decide) ?_
      refine J_iconst (v := 1) hC dX3_many_27 (by decide) ?_
      refine bnd_c h (fun w8 hw h => ?_)
      refine J_callS (As := [.int a3, .int 0, .int 1]) (M' := M1) (rv := some (Value.int w8)) (st := []) hC (fun l hl => cX3_in_ok M1 a3 0 1 _ hw l hl) sm_X3_in k_X3_40 rfl ⟨Nat.le_of_ble_eq_true rfl, Nat.le_of_ble_eq_true rfl⟩ (Nat.zero_le _) ⟨Nat.le_of_ble_eq_true rfl, Nat.le_of_ble_eq_true rfl⟩ dX3_many_28 rfl ?_
      refine J_if_eq (tgt := 44) hC dX3_many_31 (by decide) (fun c9 => ?_) (fun c9 => ?_)
      · have h := ite_t c9 h
        refine J_aload_n (j := 0) hC dX3_many_44 rfl ?_
        refine J_iconst (v := 2) hC dX3_many_45 (by decide) ?_
        refine ck_c h (fun ho h => ?_)
        refine bnd_c h (fun w10 hw h => ?_)
        refine J_callV (As := [.int 2]) (M' := w10.1) (rv := some (Value.int w10.2)) (st := []) hC (fun l hl => cX3_fails_ok M1 a0 2 _ hw l hl) vm_X3_fails k_X3_79 ho ⟨rfl, rfl⟩ rfl ⟨Nat.le_of_ble_eq_true rfl, Nat.le_of_ble_eq_true rfl⟩ (Nat.zero_le _) ⟨Nat.le_of_ble_eq_true rfl, Nat.le_of_ble_eq_true rfl⟩ dX3_many_46 rfl ?_
        exact J_iret hC dX3_many_49 (by have h9 := Option.some.inj h; subst h9; rfl) (Nat.le_of_ble_eq_true rfl) (Nat.le_of_ble_eq_true rfl)
      · have h := ite_f c9 h
        refine J_aload_n (j := 0) hC dX3_many_34 rfl ?_
        refine J_iload_n (j := 1) hC dX3_many_35 rfl ?_
        refine J_iload_n (j := 2) hC dX3_many_36 rfl ?_
        refine J_iload_n (j := 3) hC dX3_many_37 rfl ?_
        refine ck_c h (fun ho h => ?_)
        refine bnd_c h (fun w11 hw h => ?_)
        refine J_callV (As := [.int a1, .int a2, .int a3]) (M' := M1) (rv := some (Value.int w11)) (st := []) hC (fun l hl => cX3_rows_ok M1 a0 a1 a2 a3 _ hw l hl) vm_X3_rows k_X3_134 ho ⟨rfl, rfl⟩ rfl ⟨Nat.le_of_ble_eq_true rfl, Nat.le_of_ble_eq_true rfl⟩ (Nat.zero_le _) ⟨Nat.le_of_ble_eq_true rfl, Nat.le_of_ble_eq_true rfl⟩ dX3_many_38 rfl ?_
        refine J_goto (tgt := 49) hC dX3_many_41 (by decide) ?_
        exact J_iret hC dX3_many_49 (by have h9 := Option.some.inj h; subst h9; rfl) (Nat.le_of_ble_eq_true rfl) (Nat.le_of_ble_eq_true rfl)
    · have h := ite_t c6 h
      refine J_aload_n (j := 0) hC dX3_many_19 rfl ?_
      refine J_iconst (v := 1) hC dX3_many_20 (by decide) ?_
      refine ck_c h (fun ho h => ?_)
      refine bnd_c h (fun w7 hw h => ?_)
      refine J_callV (As := [.int 1]) (M' := w7.1) (rv := some (Value.int w7.2)) (st := []) hC (fun l hl => cX3_fails_ok M1 a0 1 _ hw l hl) vm_X3_fails k_X3_79 ho ⟨rfl, rfl⟩ rfl ⟨Nat.le_of_ble_eq_true rfl, Nat.le_of_ble_eq_true rfl⟩ (Nat.zero_le _) ⟨Nat.le_of_ble_eq_true rfl, Nat.le_of_ble_eq_true rfl⟩ dX3_many_21 rfl ?_
      exact J_iret hC dX3_many_24 (by have h9 := Option.some.inj h; subst h9; rfl) (Nat.le_of_ble_eq_true rfl) (Nat.le_of_ble_eq_true rfl)
abbrev rm_X3_isAmong : Room := { frames := 3, cells := 0, slots := 0, locals := 72 }

set_option maxHeartbeats 4000000 in
set_option maxRecDepth 100000 in
theorem tX3_isAmong_21 {C : JC} {r0 : Int32} (M : Mem) (x0 : Option Nat) (x1 : Int32) (x2 : Int32) (x3 : Int32) (x4 : Int32) (hC : Ok C false cX3_isAmong 7 rm_X3_isAmong (some .boolean) RX3 (M, Sum.inr (some (Value.int r0))))  (k79 : Int32 → Int32 → Option (Int32)) (hk79 : ∀ (x5 : Int32) (x6 : Int32), k79 x5 x6 = some r0 → J C 0 0 M 79 [(0, rf x0), (1, .int x1), (2, .int x2), (3, .int x3), (4, .int x4), (5, .int x5), (6, .int x6)] []) : ∀ (n : Nat) (x5 : Int32) (x6 : Int32), fX3_isAmong_21 M x0 x1 x2 x3 x4 k79 n x5 x6 = some r0 → J C 0 0 M 21 [(0, rf x0), (1, .int x1), (2, .int x2), (3, .int x3), (4, .int x4), (5, .int x5), (6, .int x6)] [] := by
  intro n
  induction n with
  | zero => intro x5 x6 h; have h : none = some r0 := h; cases h
  | succ n ih =>
    intro x5 x6 h
    rw [fX3_isAmong_21] at h
    refine J_iload (j := 6) hC dX3_isAmong_21 rfl ?_
    refine J_bipush (v := 9) hC dX3_isAmong_23 (by decide) ?_
    refine J_icmp_ge (tgt := 79) hC dX3_isAmong_25 (by decide) (fun c2 => ?_) (fun c2 => ?_)
    · have h := ite_t c2 h
      refine J_sub [0, 1, 2, 3, 4, 5, 6] rfl ?_
      exact hk79 x5 x6 h
    · have h := ite_f c2 h
      refine J_iload (j := 5) hC dX3_isAmong_28 rfl ?_
      refine J_if_eq (tgt := 70) hC dX3_isAmong_30 (by decide) (fun c3 => ?_) (fun c3 => ?_)
      · have h := ite_t c3 h
        refine J_iconst (v := 0) hC dX3_isAmong_70 (by decide) ?_
        refine J_istore (lv' := [(5, .int 0), (0, rf x0), (1, .int x1), (2, .int x2), (3, .int x3), (4, .int x4), (6, .int x6)]) hC dX3_isAmong_71 (by decide) rfl ?_
        refine J_inc (j := 6) (k := 1) (lv' := [(6, .int (x6 + 1)), (5, .int 0), (0, rf x0), (1, .int x1), (2, .int x2), (3, .int x3), (4, .int x4)]) hC dX3_isAmong_73 (by decide) rfl (by decide) rfl ?_
        refine J_goto (tgt := 21) hC dX3_isAmong_76 (by decide) ?_
        refine J_sub [2, 3, 4, 5, 6, 1, 0] rfl ?_
        exact ih 0 (x6 + 1) h
      · have h := ite_f c3 h
        refine J_aload_n (j := 0) hC dX3_isAmong_33 rfl ?_
        refine J_iload_n (j := 2) hC dX3_isAmong_34 rfl ?_
        refine J_iload_n (j := 3) hC dX3_isAmong_35 rfl ?_
        refine J_iload (j := 6) hC dX3_isAmong_36 rfl ?_
        refine J_iload (j := 4) hC dX3_isAmong_38 rfl ?_
        refine ck_c h (fun ho h => ?_)
        refine bnd_c h (fun w4 hw h => ?_)
        refine J_callV (As := [.int x2, .int x3, .int x6, .int x4]) (M' := M) (rv := some (Value.int w4)) (st := []) hC (fun l hl => cX3_isThree_ok M x0 x2 x3 x6 x4 _ hw l hl) vm_X3_isThree k_X3_131 ho ⟨rfl, rfl⟩ rfl ⟨Nat.le_of_ble_eq_true rfl, Nat.le_of_ble_eq_true rfl⟩ (Nat.zero_le _) ⟨Nat.le_of_ble_eq_true rfl, Nat.le_of_ble_eq_true rfl⟩ dX3_isAmong_40 rfl ?_
        refine J_if_ne (tgt := 66) hC dX3_isAmong_43 (by decide) (fun c5 => ?_) (fun c5 => ?_)
        · have h := ite_f c5 h
          refine J_iconst (v := 1) hC dX3_isAmong_66 (by decide) ?_
          refine J_goto (tgt := 71) hC dX3_isAmong_67 (by decide) ?_
          refine J_istore (lv' := [(5, .int 1), (0, rf x0), (1, .int x1), (2, .int x2), (3, .int x3), (4, .int x4), (6, .int x6)]) hC dX3_isAmong_71 (by decide) rfl ?_
          refine J_inc (j := 6) (k := 1) (lv' := [(6, .int (x6 + 1)), (5, .int 1), (0, rf x0), (1, .int x1), (2, .int x2), (3, .int x3), (4, .int x4)]) hC dX3_isAmong_73 (by decide) rfl (by decide) rfl ?_
          refine J_goto (tgt := 21) hC dX3_isAmong_76 (by decide) ?_
          refine J_sub [2, 3, 4, 5, 6, 1, 0] rfl ?_
          exact ih 1 (x6 + 1) h
        · have h := ite_t c5 h
          refine J_aload_n (j := 0) hC dX3_isAmong_46 rfl ?_
          refine J_iload_n (j := 1) hC dX3_isAmong_47 rfl ?_
          refine J_iload (j := 6) hC dX3_isAmong_48 rfl ?_
          refine ck_c h (fun ho h => ?_)
          refine bnd_c h (fun w6 hw h => ?_)
          refine J_callV (As := [.int x1, .int x6]) (M' := M) (rv := some (Value.int w6)) (st := []) hC (fun l hl => cX3_signAt_ok M x0 x1 x6 _ hw l hl) vm_X3_signAt k_X3_44 ho ⟨rfl, rfl⟩ rfl ⟨Nat.le_of_ble_eq_true rfl, Nat.le_of_ble_eq_true rfl⟩ (Nat.zero_le _) ⟨Nat.le_of_ble_eq_true rfl, Nat.le_of_ble_eq_true rfl⟩ dX3_isAmong_50 rfl ?_
          refine J_aload_n (j := 0) hC dX3_isAmong_53 rfl ?_
          refine J_iload_n (j := 2) hC dX3_isAmong_54 rfl ?_
          refine J_iload_n (j := 3) hC dX3_isAmong_55 rfl ?_
          refine J_iload (j := 6) hC dX3_isAmong_56 rfl ?_
          refine J_iload (j := 4) hC dX3_isAmong_58 rfl ?_
          refine ck_c h (fun ho h => ?_)
          refine bnd_c h (fun w7 hw h => ?_)
          refine J_callV (As := [.int x2, .int x3, .int x6, .int x4]) (M' := M) (rv := some (Value.int w7)) (st := [.int w6]) hC (fun l hl => cX3_only_ok M x0 x2 x3 x6 x4 _ hw l hl) vm_X3_only k_X3_138 ho ⟨rfl, rfl⟩ rfl ⟨Nat.le_of_ble_eq_true rfl, Nat.le_of_ble_eq_true rfl⟩ (Nat.le_of_ble_eq_true rfl) ⟨Nat.le_of_ble_eq_true rfl, Nat.le_of_ble_eq_true rfl⟩ dX3_isAmong_60 rfl ?_
          have hj : ∀ (z8 : Int32), z8 = (if w6 = w7 then 1 else 0) → J C 0 0 M 71 [(0, rf x0), (1, .int x1), (2, .int x2), (3, .int x3), (4, .int x4), (5, .int x5), (6, .int x6)] [.int z8] := by
            intro z8 ez8
            subst ez8
            refine J_istore (lv' := [(5, .int (if w6 = w7 then 1 else 0)), (0, rf x0), (1, .int x1), (2, .int x2), (3, .int x3), (4, .int x4), (6, .int x6)]) hC dX3_isAmong_71 (by decide) rfl ?_
            refine J_inc (j := 6) (k := 1) (lv' := [(6, .int (x6 + 1)), (5, .int (if w6 = w7 then 1 else 0)), (0, rf x0), (1, .int x1), (2, .int x2), (3, .int x3), (4, .int x4)]) hC dX3_isAmong_73 (by decide) rfl (by decide) rfl ?_
            refine J_goto (tgt := 21) hC dX3_isAmong_76 (by decide) ?_
            refine J_sub [2, 3, 4, 5, 6, 1, 0] rfl ?_
            exact ih (if w6 = w7 then 1 else 0) (x6 + 1) h
          refine J_icmp_ne (tgt := 70) hC dX3_isAmong_63 (by decide) (fun c9 => ?_) (fun c9 => ?_)
          · refine J_iconst (v := 0) hC dX3_isAmong_70 (by decide) ?_
            refine J_sub [0, 1, 2, 3, 4, 5, 6] rfl ?_
            exact hj _ (if_neg c9).symm
          · refine J_iconst (v := 1) hC dX3_isAmong_66 (by decide) ?_
            refine J_goto (tgt := 71) hC dX3_isAmong_67 (by decide) ?_
            refine J_sub [0, 1, 2, 3, 4, 5, 6] rfl ?_
            exact hj _ (if_pos c9).symm
set_option maxHeartbeats 4000000 in
set_option maxRecDepth 100000 in
theorem cX3_isAmong_ok (M : Mem) (a0 : Option Nat) (a1 : Int32) (a2 : Int32) (a3 : Int32) (a4 : Int32) (r0 : Int32) (h : fX3_isAmong M a0 a1 a2 a3 a4 = some r0) : ∀ l : Launch, l.stackTraces = false → Con false l yX3_isAmong cX3_isAmong 7 (some .boolean) rm_X3_isAmong [rf a0, .int a1, .int a2, .int a3, .int a4] M (M, Sum.inr (some (Value.int r0))) := by
  intro l hst
  refine Con.enter hst (own := RX3) (by decide +kernel) rfl (by exact Nat.le_of_ble_eq_true rfl) (lv0 := [(0, rf a0), (1, .int a1), (2, .int a2), (3, .int a3), (4, .int a4)]) (rfl) (fun C hC hin => ?_)
  unfold fX3_isAmong at h
  refine J_aload_n (j := 0) hC dX3_isAmong_0 rfl ?_
  refine J_iload_n (j := 2) hC dX3_isAmong_1 rfl ?_
  refine J_iload_n (j := 3) hC dX3_isAmong_2 rfl ?_
  refine J_iload (j := 4) hC dX3_isAmong_3 rfl ?_
  refine ck_c h (fun ho h => ?_)
  refine bnd_c h (fun w1 hw h => ?_)
  refine J_callV (As := [.int a2, .int a3, .int a4]) (M' := M) (rv := some (Value.int w1)) (st := []) hC (fun l hl => cX3_isTooHigh_ok M a0 a2 a3 a4 _ hw l hl) vm_X3_isTooHigh k_X3_128 ho ⟨rfl, rfl⟩ rfl ⟨Nat.le_of_ble_eq_true rfl, Nat.le_of_ble_eq_true rfl⟩ (Nat.zero_le _) ⟨Nat.le_of_ble_eq_true rfl, Nat.le_of_ble_eq_true rfl⟩ dX3_isAmong_5 rfl ?_
  have hj : ∀ (z12 : Int32), z12 = (if w1 = 0 then 1 else 0) → J C 0 0 M 16 [(0, rf a0), (1, .int a1), (2, .int a2), (3, .int a3), (4, .int a4)] [.int z12] := by
    intro z12 ez12
    subst ez12
    refine J_istore (lv' := [(5, .int (if w1 = 0 then 1 else 0)), (0, rf a0), (1, .int a1), (2, .int a2), (3, .int a3), (4, .int a4)]) hC dX3_isAmong_16 (by decide) rfl ?_
    refine J_iconst (v := 0) hC dX3_isAmong_18 (by decide) ?_
    refine J_istore (lv' := [(6, .int 0), (5, .int (if w1 = 0 then 1 else 0)), (0, rf a0), (1, .int a1), (2, .int a2), (3, .int a3), (4, .int a4)]) hC dX3_isAmong_19 (by decide) rfl ?_
    refine J_sub [2, 3, 4, 5, 6, 1, 0] rfl ?_
    refine tX3_isAmong_21 M a0 a1 a2 a3 a4 hC _ (fun x10 x11 h => ?_) FU (if w1 = 0 then 1 else 0) 0 h
    · refine J_iload (j := 5) hC dX3_isAmong_79 rfl ?_
      refine chk_c h (fun hz h => ?_)
      exact J_zret hC dX3_isAmong_81 (zb_nar hz) (by have h9 := Option.some.inj h; subst h9; rfl) (Nat.le_of_ble_eq_true rfl) (Nat.le_of_ble_eq_true rfl)
  refine J_if_ne (tgt := 15) hC dX3_isAmong_8 (by decide) (fun c13 => ?_) (fun c13 => ?_)
  · refine J_iconst (v := 0) hC dX3_isAmong_15 (by decide) ?_
    refine J_sub [0, 1, 2, 3, 4] rfl ?_
    exact hj _ (if_neg c13).symm
  · refine J_iconst (v := 1) hC dX3_isAmong_11 (by decide) ?_
    refine J_goto (tgt := 16) hC dX3_isAmong_12 (by decide) ?_
    refine J_sub [0, 1, 2, 3, 4] rfl ?_
    exact hj _ (if_pos c13).symm
abbrev rm_X3_isIn : Room := { frames := 4, cells := 0, slots := 0, locals := 98 }

set_option maxHeartbeats 4000000 in
set_option maxRecDepth 100000 in
theorem cX3_isIn_ok (M : Mem) (a0 : Option Nat) (a1 : Int32) (a2 : Int32) (a3 : Int32) (a4 : Int32) (r0 : Mem × Int32) (h : fX3_isIn M a0 a1 a2 a3 a4 = some r0) : ∀ l : Launch, l.stackTraces = false → Con false l yX3_isIn cX3_isIn 5 (some .int) rm_X3_isIn [rf a0, .int a1, .int a2, .int a3, .int a4] M (r0.1, Sum.inr (some (Value.int r0.2))) := by
  intro l hst
  refine Con.enter hst (own := RX3) (by decide +kernel) rfl (by exact Nat.le_of_ble_eq_true rfl) (lv0 := [(0, rf a0), (1, .int a1), (2, .int a2), (3, .int a3), (4, .int a4)]) (rfl) (fun C hC hin => ?_)
  unfold fX3_isIn at h
  refine J_aload_n (j := 0) hC dX3_isIn_0 rfl ?_
  refine J_iconst (v := 0) hC dX3_isIn_1 (by decide) ?_
  refine J_p3_0 hC k_X3_36 dX3_isIn_2 h (fun M1 _ h => ?_)
  refine J_iload_n (j := 1) hC dX3_isIn_5 rfl ?_
  refine bnd_c h (fun w2 hw h => ?_)
  refine J_callS (As := [.int a1]) (M' := M1) (rv := some (Value.int w2)) (st := []) hC (fun l hl => cX3_isPoly_ok M1 a1 _ hw l hl) sm_X3_isPoly k_X3_75 rfl ⟨Nat.le_of_ble_eq_true rfl, Nat.le_of_ble_eq_true rfl⟩ (Nat.zero_le _) ⟨Nat.le_of_ble_eq_true rfl, Nat.le_of_ble_eq_true rfl⟩ dX3_isIn_6 rfl ?_
  refine J_if_eq (tgt := 26) hC dX3_isIn_9 (by decide) (fun c3 => ?_) (fun c3 => ?_)
  · have h := ite_t c3 h
    refine J_aload_n (j := 0) hC dX3_isIn_26 rfl ?_
    refine J_iconst (v := 1) hC dX3_isIn_27 (by decide) ?_
    refine ck_c h (fun ho h => ?_)
    refine bnd_c h (fun w4 hw h => ?_)
    refine J_callV (As := [.int 1]) (M' := w4.1) (rv := some (Value.int w4.2)) (st := []) hC (fun l hl => cX3_fails_ok M1 a0 1 _ hw l hl) vm_X3_fails k_X3_79 ho ⟨rfl, rfl⟩ rfl ⟨Nat.le_of_ble_eq_true rfl, Nat.le_of_ble_eq_true rfl⟩ (Nat.zero_le _) ⟨Nat.le_of_ble_eq_true rfl, Nat.le_of_ble_eq_true rfl⟩ dX3_isIn_28 rfl ?_
    exact J_iret hC dX3_isIn_31 (by have h9 := Option.some.inj h; subst h9; rfl) (Nat.le_of_ble_eq_true rfl) (Nat.le_of_ble_eq_true rfl)
  · have h := ite_f c3 h
    refine J_iload_n (j := 2) hC dX3_isIn_12 rfl ?_
    refine bnd_c h (fun w5 hw h => ?_)
    refine J_callS (As := [.int a2]) (M' := M1) (rv := some (Value.int w5)) (st := []) hC (fun l hl => cX3_isPoly_ok M1 a2 _ hw l hl) sm_X3_isPoly k_X3_75 rfl ⟨Nat.le_of_ble_eq_true rfl, Nat.le_of_ble_eq_true rfl⟩ (Nat.zero_le _) ⟨Nat.le_of_ble_eq_true rfl, Nat.le_of_ble_eq_true rfl⟩ dX3_isIn_13 rfl ?_
    refine J_if_eq (tgt := 26) hC dX3_isIn_16 (by decide) (fun c6 => ?_) (fun c6 => ?_)
    · have h := ite_t c6 h
      refine J_aload_n (j := 0) hC dX3_isIn_26 rfl ?_
      refine J_iconst (v := 1) hC dX3_isIn_27 (by decide) ?_
      refine ck_c h (fun ho h => ?_)
      refine bnd_c h (fun w7 hw h => ?_)
      refine J_callV (As := [.int 1]) (M' := w7.1) (rv := some (Value.int w7.2)) (st := []) hC (fun l hl => cX3_fails_ok M1 a0 1 _ hw l hl) vm_X3_fails k_X3_79 ho ⟨rfl, rfl⟩ rfl ⟨Nat.le_of_ble_eq_true rfl, Nat.le_of_ble_eq_true rfl⟩ (Nat.zero_le _) ⟨Nat.le_of_ble_eq_true rfl, Nat.le_of_ble_eq_true rfl⟩ dX3_isIn_28 rfl ?_
      exact J_iret hC dX3_isIn_31 (by have h9 := Option.some.inj h; subst h9; rfl) (Nat.le_of_ble_eq_true rfl) (Nat.le_of_ble_eq_true rfl)
    · have h := ite_f c6 h
      refine J_iload_n (j := 3) hC dX3_isIn_19 rfl ?_
      refine bnd_c h (fun w8 hw h => ?_)
      refine J_callS (As := [.int a3]) (M' := M1) (rv := some (Value.int w8)) (st := []) hC (fun l hl => cX3_isPoly_ok M1 a3 _ hw l hl) sm_X3_isPoly k_X3_75 rfl ⟨Nat.le_of_ble_eq_true rfl, Nat.le_of_ble_eq_true rfl⟩ (Nat.zero_le _) ⟨Nat.le_of_ble_eq_true rfl, Nat.le_of_ble_eq_true rfl⟩ dX3_isIn_20 rfl ?_
      refine J_if_ne (tgt := 32) hC dX3_isIn_23 (by decide) (fun c9 => ?_) (fun c9 => ?_)
      · have h := ite_f c9 h
        refine J_iload (j := 4) hC dX3_isIn_32 rfl ?_
        refine J_iconst (v := 0) hC dX3_isIn_34 (by decide) ?_
        refine J_iconst (v := 1) hC dX3_isIn_35 (by decide) ?_
        refine bnd_c h (fun w11 hw h => ?_)
        refine J_callS (As := [.int a4, .int 0, .int 1]) (M' := M1) (rv := some (Value.int w11)) (st := []) hC (fun l hl => cX3_in_ok M1 a4 0 1 _ hw l hl) sm_X3_in k_X3_40 rfl ⟨Nat.le_of_ble_eq_true rfl, Nat.le_of_ble_eq_true rfl⟩ (Nat.zero_le _) ⟨Nat.le_of_ble_eq_true rfl, Nat.le_of_ble_eq_true rfl⟩ dX3_isIn_36 rfl ?_
        refine J_if_ne (tgt := 50) hC dX3_isIn_39 (by decide) (fun c12 => ?_) (fun c12 => ?_)
        · have h := ite_f c12 h
          refine J_aload_n (j := 0) hC dX3_isIn_50 rfl ?_
          refine J_iload_n (j := 1) hC dX3_isIn_51 rfl ?_
          refine J_iload_n (j := 2) hC dX3_isIn_52 rfl ?_
          refine J_iload_n (j := 3) hC dX3_isIn_53 rfl ?_
          refine J_iload (j := 4) hC dX3_isIn_54 rfl ?_
          refine ck_c h (fun ho h => ?_)
          refine bnd_c h (fun w14 hw h => ?_)
          refine J_callV (As := [.int a1, .int a2, .int a3, .int a4]) (M' := M1) (rv := some (Value.int w14)) (st := []) hC (fun l hl => cX3_isAmong_ok M1 a0 a1 a2 a3 a4 _ hw l hl) vm_X3_isAmong k_X3_142 ho ⟨rfl, rfl⟩ rfl ⟨Nat.le_of_ble_eq_true rfl, Nat.le_of_ble_eq_true rfl⟩ (Nat.zero_le _) ⟨Nat.le_of_ble_eq_true rfl, Nat.le_of_ble_eq_true rfl⟩ dX3_isIn_56 rfl ?_
          have hj : ∀ (z15 : Int32), z15 = (if w14 = 0 then 0 else 1) → J C 0 0 M1 67 [(0, rf a0), (1, .int a1), (2, .int a2), (3, .int a3), (4, .int a4)] [.int z15] := by
            intro z15 ez15
            subst ez15
            exact J_iret hC dX3_isIn_67 (by have h9 := Option.some.inj h; subst h9; rfl) (Nat.le_of_ble_eq_true rfl) (Nat.le_of_ble_eq_true rfl)
          refine J_if_eq (tgt := 66) hC dX3_isIn_59 (by decide) (fun c16 => ?_) (fun c16 => ?_)
          · refine J_iconst (v := 0) hC dX3_isIn_66 (by decide) ?_
            refine J_sub [0, 1, 2, 3, 4] rfl ?_
            exact hj _ (if_pos c16).symm
          · refine J_iconst (v := 1) hC dX3_isIn_62 (by decide) ?_
            refine J_goto (tgt := 67) hC dX3_isIn_63 (by decide) ?_
            refine J_sub [0, 1, 2, 3, 4] rfl ?_
            exact hj _ (if_neg c16).symm
        · have h := ite_t c12 h
          refine J_aload_n (j := 0) hC dX3_isIn_42 rfl ?_
          refine J_iconst (v := 2) hC dX3_isIn_43 (by decide) ?_
          refine ck_c h (fun ho h => ?_)
          refine bnd_c h (fun w13 hw h => ?_)
          refine J_callV (As := [.int 2]) (M' := w13.1) (rv := some (Value.int w13.2)) (st := []) hC (fun l hl => cX3_fails_ok M1 a0 2 _ hw l hl) vm_X3_fails k_X3_79 ho ⟨rfl, rfl⟩ rfl ⟨Nat.le_of_ble_eq_true rfl, Nat.le_of_ble_eq_true rfl⟩ (Nat.zero_le _) ⟨Nat.le_of_ble_eq_true rfl, Nat.le_of_ble_eq_true rfl⟩ dX3_isIn_44 rfl ?_
          refine J_goto (tgt := 67) hC dX3_isIn_47 (by decide) ?_
          exact J_iret hC dX3_isIn_67 (by have h9 := Option.some.inj h; subst h9; rfl) (Nat.le_of_ble_eq_true rfl) (Nat.le_of_ble_eq_true rfl)
      · have h := ite_t c9 h
        refine J_aload_n (j := 0) hC dX3_isIn_26 rfl ?_
        refine J_iconst (v := 1) hC dX3_isIn_27 (by decide) ?_
        refine ck_c h (fun ho h => ?_)
        refine bnd_c h (fun w10 hw h => ?_)
        refine J_callV (As := [.int 1]) (M' := w10.1) (rv := some (Value.int w10.2)) (st := []) hC (fun l hl => cX3_fails_ok M1 a0 1 _ hw l hl) vm_X3_fails k_X3_79 ho ⟨rfl, rfl⟩ rfl ⟨Nat.le_of_ble_eq_true rfl, Nat.le_of_ble_eq_true rfl⟩ (Nat.zero_le _) ⟨Nat.le_of_ble_eq_true rfl, Nat.le_of_ble_eq_true rfl⟩ dX3_isIn_28 rfl ?_
        exact J_iret hC dX3_isIn_31 (by have h9 := Option.some.inj h; subst h9; rfl) (Nat.le_of_ble_eq_true rfl) (Nat.le_of_ble_eq_true rfl)
abbrev rm_X3_coefficient : Room := { frames := 1, cells := 0, slots := 0, locals := 22 }

set_option maxHeartbeats 4000000 in
set_option maxRecDepth 100000 in
theorem cX3_coefficient_ok (M : Mem) (a0 : Option Nat) (a1 : Int32) (r0 : Mem × Int64) (h : fX3_coefficient M a0 a1 = some r0) : ∀ l : Launch, l.stackTraces = false → Con false l yX3_coefficient cX3_coefficient 2 (some .long) rm_X3_coefficient [rf a0, .int a1] M (r0.1, Sum.inr (some (Value.long r0.2))) := by
  intro l hst
  refine Con.enter hst (own := RX3) (by decide +kernel) rfl (by exact Nat.le_of_ble_eq_true rfl) (lv0 := [(0, rf a0), (1, .int a1)]) (rfl) (fun C hC hin => ?_)
  unfold fX3_coefficient at h
  refine J_aload_n (j := 0) hC dX3_coefficient_0 rfl ?_
  refine J_iconst (v := 0) hC dX3_coefficient_1 (by decide) ?_
  refine J_p3_0 hC k_X3_36 dX3_coefficient_2 h (fun M1 _ h => ?_)
  refine J_iload_n (j := 1) hC dX3_coefficient_5 rfl ?_
  refine J_iconst (v := 0) hC dX3_coefficient_6 (by decide) ?_
  refine J_bipush (v := 8) hC dX3_coefficient_7 (by decide) ?_
  refine bnd_c h (fun w2 hw h => ?_)
  refine J_callS (As := [.int a1, .int 0, .int 8]) (M' := M1) (rv := some (Value.int w2)) (st := []) hC (fun l hl => cX3_in_ok M1 a1 0 8 _ hw l hl) sm_X3_in k_X3_40 rfl ⟨Nat.le_of_ble_eq_true rfl, Nat.le_of_ble_eq_true rfl⟩ (Nat.zero_le _) ⟨Nat.le_of_ble_eq_true rfl, Nat.le_of_ble_eq_true rfl⟩ dX3_coefficient_9 rfl ?_
  refine J_if_ne (tgt := 22) hC dX3_coefficient_12 (by decide) (fun c3 => ?_) (fun c3 => ?_)
  · have h := ite_f c3 h
    refine J_aload_n (j := 0) hC dX3_coefficient_22 rfl ?_
    refine ck_c h (fun ho h => ?_)
    refine bnd_c h (fun w5 hw h => ?_)
    refine J_callV (As := []) (M' := w5) (rv := none) (st := []) hC (fun l hl => cX3_multiplies_ok M1 a0 _ hw l hl) vm_X3_multiplies k_X3_94 ho ⟨rfl, rfl⟩ rfl ⟨Nat.le_of_ble_eq_true rfl, Nat.le_of_ble_eq_true rfl⟩ (Nat.zero_le _) ⟨Nat.le_of_ble_eq_true rfl, Nat.le_of_ble_eq_true rfl⟩ dX3_coefficient_23 rfl ?_
    refine J_aload_n (j := 0) hC dX3_coefficient_26 rfl ?_
    refine J_g3_11 hC k_X3_32 dX3_coefficient_27 h (fun v6 _ h => ?_)
    refine J_iload_n (j := 1) hC dX3_coefficient_30 rfl ?_
    refine J_lald hC dX3_coefficient_31 h (fun v7 _ h => ?_)
    exact J_lret hC dX3_coefficient_32 (by have h9 := Option.some.inj h; subst h9; rfl) (Nat.le_of_ble_eq_true rfl) (Nat.le_of_ble_eq_true rfl)
  · have h := ite_t c3 h
    refine J_aload_n (j := 0) hC dX3_coefficient_15 rfl ?_
    refine J_iconst (v := 1) hC dX3_coefficient_16 (by decide) ?_
    refine ck_c h (fun ho h => ?_)
    refine bnd_c h (fun w4 hw h => ?_)
    refine J_callV (As := [.int 1]) (M' := w4.1) (rv := some (Value.int w4.2)) (st := []) hC (fun l hl => cX3_fails_ok M1 a0 1 _ hw l hl) vm_X3_fails k_X3_79 ho ⟨rfl, rfl⟩ rfl ⟨Nat.le_of_ble_eq_true rfl, Nat.le_of_ble_eq_true rfl⟩ (Nat.zero_le _) ⟨Nat.le_of_ble_eq_true rfl, Nat.le_of_ble_eq_true rfl⟩ dX3_coefficient_17 rfl ?_
    refine J_i2l hC dX3_coefficient_20 ?_
    exact J_lret hC dX3_coefficient_21 (by have h9 := Option.some.inj h; subst h9; rfl) (Nat.le_of_ble_eq_true rfl) (Nat.le_of_ble_eq_true rfl)
abbrev rm_X3_rootsOf : Room := { frames := 0, cells := 0, slots := 0, locals := 0 }

set_option maxHeartbeats 4000000 in
set_option maxRecDepth 100000 in
theorem tX3_rootsOf_4 {C : JC} {r0 : Int32} (M : Mem) (x0 : Option Nat) (x1 : Int32) (hC : Ok C false cX3_rootsOf 5 rm_X3_rootsOf (some .int) RX3 (M, Sum.inr (some (Value.int r0))))  (k63 : Int32 → Int32 → Option (Int32)) (hk63 : ∀ (x2 : Int32) (x3 : Int32), k63 x2 x3 = some r0 → J C 0 0 M 63 [(0, rf x0), (1, .int x1), (2, .int x2), (3, .int x3)] []) : ∀ (n : Nat) (x2 : Int32) (x3 : Int32), fX3_rootsOf_4 M x0 x1 k63 n x2 x3 = some r0 → J C 0 0 M 4 [(0, rf x0), (1, .int x1), (2, .int x2), (3, .int x3)] [] := by
  intro n
  induction n with
  | zero => intro x2 x3 h; have h : none = some r0 := h; cases h
  | succ n ih =>
    intro x2 x3 h
    rw [fX3_rootsOf_4] at h
    refine J_iload_n (j := 3) hC dX3_rootsOf_4 rfl ?_
    refine J_aload_n (j := 0) hC dX3_rootsOf_5 rfl ?_
    refine J_g3_1 hC k_X3_7 dX3_rootsOf_6 h (fun v1 _ h => ?_)
    refine J_bipush (v := 45) hC dX3_rootsOf_9 (by decide) ?_
    refine J_iald hC dX3_rootsOf_11 h (fun v2 _ h => ?_)
    refine J_icmp_ge (tgt := 63) hC dX3_rootsOf_12 (by decide) (fun c3 => ?_) (fun c3 => ?_)
    · have h := ite_t c3 h
      refine J_sub [0, 1, 2, 3] rfl ?_
      exact hk63 x2 x3 h
    · have h := ite_f c3 h
      refine J_aload_n (j := 0) hC dX3_rootsOf_15 rfl ?_
      refine J_g3_1 hC k_X3_7 dX3_rootsOf_16 h (fun v4 _ h => ?_)
      refine J_bipush (v := 46) hC dX3_rootsOf_19 (by decide) ?_
      refine J_iload_n (j := 3) hC dX3_rootsOf_21 rfl ?_
      refine J_iadd hC dX3_rootsOf_22 ?_
      refine J_iald hC dX3_rootsOf_23 h (fun v5 _ h => ?_)
      refine J_istore (lv' := [(4, .int v5), (0, rf x0), (1, .int x1), (2, .int x2), (3, .int x3)]) hC dX3_rootsOf_24 (by decide) rfl ?_
      refine J_iload_n (j := 3) hC dX3_rootsOf_26 rfl ?_
      refine J_iload (j := 0) hC dX3_rootsOf_27 rfl ?_
      have hj : ∀ (z8 : Int32), z8 = (if v5 ≤ 0 then (if 0 ≤ v5 then 3 else 2) else 1) → J C 0 0 M 46 [(4, .int v5), (0, rf x0), (1, .int x1), (2, .int x2), (3, .int x3)] [.int z8, .int x2] := by
        intro z8 ez8
        subst ez8
        refine J_iload_n (j := 2) hC dX3_rootsOf_46 rfl ?_
        have hj : ∀ (z6 : Int32), z6 = (if ((if v5 ≤ 0 then (if 0 ≤ v5 then 3 else 2) else 1) : Int32) = x1 then 1 else 0) → J C 0 0 M 55 [(4, .int v5), (0, rf x0), (1, .int x1), (2, .int x2), (3, .int x3)] [.int z6, .int x2] := by
          intro z6 ez6
          subst ez6
          refine J_iadd hC dX3_rootsOf_55 ?_
          refine J_istore_n (i := 2) (lv' := [(2, .int (x2 + (if ((if v5 ≤ 0 then (if 0 ≤ v5 then 3 else 2) else 1) : Int32) = x1 then 1 else 0))), (4, .int v5), (0, rf x0), (1, .int x1), (3, .int x3)]) rfl hC dX3_rootsOf_56 (by decide) rfl ?_
          refine J_inc (j := 4) (k := 1) (lv' := [(3, .int (x3 + 1)), (2, .int (x2 + (if ((if v5 ≤ 0 then (if 0 ≤ v5 then 3 else 2) else 1) : Int32) = x1 then 1 else 0))), (4, .int v5), (0, rf x0), (1, .int x1)]) hC dX3_rootsOf_57 (by decide) rfl (by decide) rfl ?_
          refine J_goto (tgt := 4) hC dX3_rootsOf_60 (by decide) ?_
          refine J_sub [3, 4, 1, 0] rfl ?_
          exact ih (x2 + (if ((if v5 ≤ 0 then (if 0 ≤ v5 then 3 else 2) else 1) : Int32) = x1 then 1 else 0)) (x3 + 1) h
        refine J_icmp_ne (tgt := 54) hC dX3_rootsOf_47 (by decide) (fun c7 => ?_) (fun c7 => ?_)
        · refine J_iconst (v := 0) hC dX3_rootsOf_54 (by decide) ?_
          refine J_sub [0, 1, 2, 3, 4] rfl ?_
          exact hj _ (if_neg c7).symm
        · refine J_iconst (v := 1) hC dX3_rootsOf_50 (by decide) ?_
          refine J_goto (tgt := 55) hC dX3_rootsOf_51 (by decide) ?_
          refine J_sub [0, 1, 2, 3, 4] rfl ?_
          exact hj _ (if_pos c7).symm
      refine J_if_le (tgt := 36) hC dX3_rootsOf_29 (by decide) (fun c9 => ?_) (fun c9 => ?_)
      · refine J_iload (j := 0) hC dX3_rootsOf_36 rfl ?_
        refine J_if_ge (tgt := 45) hC dX3_rootsOf_38 (by decide) (fun c10 => ?_) (fun c10 => ?_)
        · refine J_iconst (v := 3) hC dX3_rootsOf_45 (by decide) ?_
          refine J_sub [0, 1, 2, 3, 4] rfl ?_
          exact hj _ ((if_pos c9).trans (if_pos c10)).symm
        · refine J_iconst (v := 2) hC dX3_rootsOf_41 (by decide) ?_
          refine J_goto (tgt := 46) hC dX3_rootsOf_42 (by decide) ?_
          refine J_sub [0, 1, 2, 3, 4] rfl ?_
          exact hj _ ((if_pos c9).trans (if_neg c10)).symm
      · refine J_iconst (v := 1) hC dX3_rootsOf_32 (by decide) ?_
        refine J_goto (tgt := 46) hC dX3_rootsOf_33 (by decide) ?_
        refine J_sub [0, 1, 2, 3, 4] rfl ?_
        exact hj _ (if_neg c9).symm
set_option maxHeartbeats 4000000 in
set_option maxRecDepth 100000 in
theorem cX3_rootsOf_ok (M : Mem) (a0 : Option Nat) (a1 : Int32) (r0 : Int32) (h : fX3_rootsOf M a0 a1 = some r0) : ∀ l : Launch, l.stackTraces = false → Con false l yX3_rootsOf cX3_rootsOf 5 (some .int) rm_X3_rootsOf [rf a0, .int a1] M (M, Sum.inr (some (Value.int r0))) := by
  intro l hst
  refine Con.enter hst (own := RX3) (by decide +kernel) rfl (by exact Nat.le_of_ble_eq_true rfl) (lv0 := [(0, rf a0), (1, .int a1)]) (rfl) (fun C hC hin => ?_)
  unfold fX3_rootsOf at h
  refine J_iconst (v := 0) hC dX3_rootsOf_0 (by decide) ?_
  refine J_istore_n (i := 2) (lv' := [(2, .int 0), (0, rf a0), (1, .int a1)]) rfl hC dX3_rootsOf_1 (by decide) rfl ?_
  refine J_iconst (v := 0) hC dX3_rootsOf_2 (by decide) ?_
  refine J_istore_n (i := 3) (lv' := [(3, .int 0), (2, .int 0), (0, rf a0), (1, .int a1)]) rfl hC dX3_rootsOf_3 (by decide) rfl ?_
  refine J_sub [2, 3, 1, 0] rfl ?_
  refine tX3_rootsOf_4 M a0 a1 hC _ (fun x11 x12 h => ?_) FU 0 0 h
  · refine J_iload_n (j := 2) hC dX3_rootsOf_63 rfl ?_
    exact J_iret hC dX3_rootsOf_64 (by have h9 := Option.some.inj h; subst h9; rfl) (Nat.le_of_ble_eq_true rfl) (Nat.le_of_ble_eq_true rfl)
abbrev rm_X3_tellsCount : Room := { frames := 2, cells := 0, slots := 0, locals := 48 }

set_option maxHeartbeats 4000000 in
set_option maxRecDepth 100000 in
theorem tX3_tellsCount_78 {C : JC} {r0 : Int32} (M : Mem) (x0 : Option Nat) (x1 : Int32) (hC : Ok C false cX3_tellsCount 4 rm_X3_tellsCount (some .int) RX3 (M, Sum.inr (some (Value.int r0))))  (k106 : Int32 → Int32 → Option (Int32)) (hk106 : ∀ (x2 : Int32) (x3 : Int32), k106 x2 x3 = some r0 → J C 0 0 M 106 [(0, rf x0), (1, .int x1), (2, .int x2), (3, .int x3)] []) : ∀ (n : Nat) (x2 : Int32) (x3 : Int32), fX3_tellsCount_78 M x0 x1 k106 n x2 x3 = some r0 → J C 0 0 M 78 [(0, rf x0), (1, .int x1), (2, .int x2), (3, .int x3)] [] := by
  intro n
  induction n with
  | zero => intro x2 x3 h; have h : none = some r0 := h; cases h
  | succ n ih =>
    intro x2 x3 h
    rw [fX3_tellsCount_78] at h
    refine J_iload_n (j := 3) hC dX3_tellsCount_78 rfl ?_
    refine J_iconst (v := 5) hC dX3_tellsCount_79 (by decide) ?_
    refine J_icmp_ge (tgt := 106) hC dX3_tellsCount_80 (by decide) (fun c11 => ?_) (fun c11 => ?_)
    · have h := ite_t c11 h
      refine J_sub [0, 1, 2, 3] rfl ?_
      exact hk106 x2 x3 h
    · have h := ite_f c11 h
      refine J_iload_n (j := 2) hC dX3_tellsCount_83 rfl ?_
      refine J_aload_n (j := 0) hC dX3_tellsCount_84 rfl ?_
      refine J_iload_n (j := 3) hC dX3_tellsCount_85 rfl ?_
      refine J_iconst (v := 1) hC dX3_tellsCount_86 (by decide) ?_
      refine ck_c h (fun ho h => ?_)
      refine bnd_c h (fun w12 hw h => ?_)
      refine J_callV (As := [.int x3, .int 1]) (M' := M) (rv := some (Value.int w12)) (st := [.int x2]) hC (fun l hl => cX3_has_ok M x0 x3 1 _ hw l hl) vm_X3_has k_X3_117 ho ⟨rfl, rfl⟩ rfl ⟨Nat.le_of_ble_eq_true rfl, Nat.le_of_ble_eq_true rfl⟩ (Nat.le_of_ble_eq_true rfl) ⟨Nat.le_of_ble_eq_true rfl, Nat.le_of_ble_eq_true rfl⟩ dX3_tellsCount_87 rfl ?_
      have hj : ∀ (z13 : Int32), z13 = (if w12 = 0 then 0 else 1) → J C 0 0 M 98 [(0, rf x0), (1, .int x1), (2, .int x2), (3, .int x3)] [.int z13, .int x2] := by
        intro z13 ez13
        subst ez13
        refine J_iadd hC dX3_tellsCount_98 ?_
        refine J_istore_n (i := 2) (lv' := [(2, .int (x2 + (if w12 = 0 then 0 else 1))), (0, rf x0), (1, .int x1), (3, .int x3)]) rfl hC dX3_tellsCount_99 (by decide) rfl ?_
        refine J_inc (j := 3) (k := 1) (lv' := [(3, .int (x3 + 1)), (2, .int (x2 + (if w12 = 0 then 0 else 1))), (0, rf x0), (1, .int x1)]) hC dX3_tellsCount_100 (by decide) rfl (by decide) rfl ?_
        refine J_goto (tgt := 78) hC dX3_tellsCount_103 (by decide) ?_
        refine J_sub [2, 3, 1, 0] rfl ?_
        exact ih (x2 + (if w12 = 0 then 0 else 1)) (x3 + 1) h
      refine J_if_eq (tgt := 97) hC dX3_tellsCount_90 (by decide) (fun c14 => ?_) (fun c14 => ?_)
      · refine J_iconst (v := 0) hC dX3_tellsCount_97 (by decide) ?_
        refine J_sub [0, 1, 2, 3] rfl ?_
        exact hj _ (if_pos c14).symm
      · refine J_iconst (v := 1) hC dX3_tellsCount_93 (by decide) ?_
        refine J_goto (tgt := 98) hC dX3_tellsCount_94 (by decide) ?_
        refine J_sub [0, 1, 2, 3] rfl ?_
        exact hj _ (if_neg c14).symm
set_option maxHeartbeats 4000000 in
set_option maxRecDepth 100000 in
theorem cX3_tellsCount_ok (M : Mem) (a0 : Option Nat) (a1 : Int32) (r0 : Int32) (h : fX3_tellsCount M a0 a1 = some r0) : ∀ l : Launch, l.stackTraces = false → Con false l yX3_tellsCount cX3_tellsCount 4 (some .int) rm_X3_tellsCount [rf a0, .int a1] M (M, Sum.inr (some (Value.int r0))) := by
  intro l hst
  refine Con.enter hst (own := RX3) (by decide +kernel) rfl (by exact Nat.le_of_ble_eq_true rfl) (lv0 := [(0, rf a0), (1, .int a1)]) (rfl) (fun C hC hin => ?_)
  unfold fX3_tellsCount at h
  refine J_iload_n (j := 1) hC dX3_tellsCount_0 rfl ?_
  refine ite_c h (fun c0 h => ?_) (fun c0 h => ?_)
  · refine J_tabIn (tgt := 44) (off := 43) (k := 0) hC dX3_tellsCount_1 c0 (by decide) (by decide) (by decide +kernel) (by decide) ?_
    refine J_aload_n (j := 0) hC dX3_tellsCount_44 rfl ?_
    refine J_g3_1 hC k_X3_7 dX3_tellsCount_45 h (fun v2 _ h => ?_)
    refine J_bipush (v := 45) hC dX3_tellsCount_48 (by decide) ?_
    refine J_iald hC dX3_tellsCount_50 h (fun v3 _ h => ?_)
    exact J_iret hC dX3_tellsCount_51 (by have h9 := Option.some.inj h; subst h9; rfl) (Nat.le_of_ble_eq_true rfl) (Nat.le_of_ble_eq_true rfl)
  · refine ite_c h (fun c1 h => ?_) (fun c1 h => ?_)
    · refine J_tabIn (tgt := 52) (off := 51) (k := 1) hC dX3_tellsCount_1 c1 (by decide) (by decide) (by decide +kernel) (by decide) ?_
      refine J_aload_n (j := 0) hC dX3_tellsCount_52 rfl ?_
      refine J_iload_n (j := 1) hC dX3_tellsCount_53 rfl ?_
      refine ck_c h (fun ho h => ?_)
      refine bnd_c h (fun w4 hw h => ?_)
      refine J_callV (As := [.int a1]) (M' := M) (rv := some (Value.int w4)) (st := []) hC (fun l hl => cX3_rootsOf_ok M a0 a1 _ hw l hl) vm_X3_rootsOf k_X3_145 ho ⟨rfl, rfl⟩ rfl ⟨Nat.le_of_ble_eq_true rfl, Nat.le_of_ble_eq_true rfl⟩ (Nat.zero_le _) ⟨Nat.le_of_ble_eq_true rfl, Nat.le_of_ble_eq_true rfl⟩ dX3_tellsCount_54 rfl ?_
      exact J_iret hC dX3_tellsCount_57 (by have h9 := Option.some.inj h; subst h9; rfl) (Nat.le_of_ble_eq_true rfl) (Nat.le_of_ble_eq_true rfl)
    · refine ite_c h (fun c2 h => ?_) (fun c2 h => ?_)
      · refine J_tabIn (tgt := 52) (off := 51) (k := 2) hC dX3_tellsCount_1 c2 (by decide) (by decide) (by decide +kernel) (by decide) ?_
        refine J_aload_n (j := 0) hC dX3_tellsCount_52 rfl ?_
        refine J_iload_n (j := 1) hC dX3_tellsCount_53 rfl ?_
        refine ck_c h (fun ho h => ?_)
        refine bnd_c h (fun w5 hw h => ?_)
        refine J_callV (As := [.int a1]) (M' := M) (rv := some (Value.int w5)) (st := []) hC (fun l hl => cX3_rootsOf_ok M a0 a1 _ hw l hl) vm_X3_rootsOf k_X3_145 ho ⟨rfl, rfl⟩ rfl ⟨Nat.le_of_ble_eq_true rfl, Nat.le_of_ble_eq_true rfl⟩ (Nat.zero_le _) ⟨Nat.le_of_ble_eq_true rfl, Nat.le_of_ble_eq_true rfl⟩ dX3_tellsCount_54 rfl ?_
        exact J_iret hC dX3_tellsCount_57 (by have h9 := Option.some.inj h; subst h9; rfl) (Nat.le_of_ble_eq_true rfl) (Nat.le_of_ble_eq_true rfl)
      · refine ite_c h (fun c3 h => ?_) (fun c3 h => ?_)
        · refine J_tabIn (tgt := 52) (off := 51) (k := 3) hC dX3_tellsCount_1 c3 (by decide) (by decide) (by decide +kernel) (by decide) ?_
          refine J_aload_n (j := 0) hC dX3_tellsCount_52 rfl ?_
          refine J_iload_n (j := 1) hC dX3_tellsCount_53 rfl ?_
          refine ck_c h (fun ho h => ?_)
          refine bnd_c h (fun w6 hw h => ?_)
          refine J_callV (As := [.int a1]) (M' := M) (rv := some (Value.int w6)) (st := []) hC (fun l hl => cX3_rootsOf_ok M a0 a1 _ hw l hl) vm_X3_rootsOf k_X3_145 ho ⟨rfl, rfl⟩ rfl ⟨Nat.le_of_ble_eq_true rfl, Nat.le_of_ble_eq_true rfl⟩ (Nat.zero_le _) ⟨Nat.le_of_ble_eq_true rfl, Nat.le_of_ble_eq_true rfl⟩ dX3_tellsCount_54 rfl ?_
          exact J_iret hC dX3_tellsCount_57 (by have h9 := Option.some.inj h; subst h9; rfl) (Nat.le_of_ble_eq_true rfl) (Nat.le_of_ble_eq_true rfl)
        · refine ite_c h (fun c4 h => ?_) (fun c4 h => ?_)
          · refine J_tabIn (tgt := 58) (off := 57) (k := 4) hC dX3_tellsCount_1 c4 (by decide) (by decide) (by decide +kernel) (by decide) ?_
            refine J_aload_n (j := 0) hC dX3_tellsCount_58 rfl ?_
            refine J_g3_1 hC k_X3_7 dX3_tellsCount_59 h (fun v7 _ h => ?_)
            refine J_bipush (v := 54) hC dX3_tellsCount_62 (by decide) ?_
            refine J_iald hC dX3_tellsCount_64 h (fun v8 _ h => ?_)
            exact J_iret hC dX3_tellsCount_65 (by have h9 := Option.some.inj h; subst h9; rfl) (Nat.le_of_ble_eq_true rfl) (Nat.le_of_ble_eq_true rfl)
          · refine ite_c h (fun c5 h => ?_) (fun c5 h => ?_)
            · refine J_tabIn (tgt := 66) (off := 65) (k := 5) hC dX3_tellsCount_1 c5 (by decide) (by decide) (by decide +kernel) (by decide) ?_
              refine J_aload_n (j := 0) hC dX3_tellsCount_66 rfl ?_
              refine J_g3_1 hC k_X3_7 dX3_tellsCount_67 h (fun v9 _ h => ?_)
              refine J_bipush (v := 55) hC dX3_tellsCount_70 (by decide) ?_
              refine J_iald hC dX3_tellsCount_72 h (fun v10 _ h => ?_)
              exact J_iret hC dX3_tellsCount_73 (by have h9 := Option.some.inj h; subst h9; rfl) (Nat.le_of_ble_eq_true rfl) (Nat.le_of_ble_eq_true rfl)
            · refine ite_c h (fun c6 h => ?_) (fun c6 h => ?_)
              · refine J_tabIn (tgt := 74) (off := 73) (k := 6) hC dX3_tellsCount_1 c6 (by decide) (by decide) (by decide +kernel) (by decide) ?_
                refine J_iconst (v := 0) hC dX3_tellsCount_74 (by decide) ?_
                refine J_istore_n (i := 2) (lv' := [(2, .int 0), (0, rf a0), (1, .int a1)]) rfl hC dX3_tellsCount_75 (by decide) rfl ?_
                refine J_iconst (v := 0) hC dX3_tellsCount_76 (by decide) ?_
                refine J_istore_n (i := 3) (lv' := [(3, .int 0), (2, .int 0), (0, rf a0), (1, .int a1)]) rfl hC dX3_tellsCount_77 (by decide) rfl ?_
                refine J_sub [2, 3, 1, 0] rfl ?_
                refine tX3_tellsCount_78 M a0 a1 hC _ (fun x15 x16 h => ?_) FU 0 0 h
                · refine J_iload_n (j := 2) hC dX3_tellsCount_106 rfl ?_
                  exact J_iret hC dX3_tellsCount_107 (by have h9 := Option.some.inj h; subst h9; rfl) (Nat.le_of_ble_eq_true rfl) (Nat.le_of_ble_eq_true rfl)
              · have hd9 : a1.toInt < 0 ∨ 6 < a1.toInt := by
                  have e0 := ne_toInt c0
                  have e1 := ne_toInt c1
                  have e2 := ne_toInt c2
                  have e3 := ne_toInt c3
                  have e4 := ne_toInt c4
                  have e5 := ne_toInt c5
                  have e6 := ne_toInt c6
                  skip
                  have f0 : (0 : Int32).toInt = 0 := by decide
                  have f1 : (1 : Int32).toInt = 1 := by decide
                  have f2 : (2 : Int32).toInt = 2 := by decide
                  have f3 : (3 : Int32).toInt = 3 := by decide
                  have f4 : (4 : Int32).toInt = 4 := by decide
                  have f5 : (5 : Int32).toInt = 5 := by decide
                  have f6 : (6 : Int32).toInt = 6 := by decide
                  omega
                refine J_tableOut (tgt := 108) hC dX3_tellsCount_1 hd9 (by decide) ?_
                refine J_aload_n (j := 0) hC dX3_tellsCount_108 rfl ?_
                refine J_g3_3 hC k_X3_48 dX3_tellsCount_109 h (fun v1 _ h => ?_)
                exact J_iret hC dX3_tellsCount_112 (by have h9 := Option.some.inj h; subst h9; rfl) (Nat.le_of_ble_eq_true rfl) (Nat.le_of_ble_eq_true rfl)
abbrev rm_X3_count : Room := { frames := 3, cells := 0, slots := 0, locals := 71 }

set_option maxHeartbeats 4000000 in
set_option maxRecDepth 100000 in
theorem cX3_count_ok (M : Mem) (a0 : Option Nat) (a1 : Int32) (r0 : Mem × Int32) (h : fX3_count M a0 a1 = some r0) : ∀ l : Launch, l.stackTraces = false → Con false l yX3_count cX3_count 2 (some .int) rm_X3_count [rf a0, .int a1] M (r0.1, Sum.inr (some (Value.int r0.2))) := by
  intro l hst
  refine Con.enter hst (own := RX3) (by decide +kernel) rfl (by exact Nat.le_of_ble_eq_true rfl) (lv0 := [(0, rf a0), (1, .int a1)]) (rfl) (fun C hC hin => ?_)
  unfold fX3_count at h
  refine J_aload_n (j := 0) hC dX3_count_0 rfl ?_
  refine J_iconst (v := 0) hC dX3_count_1 (by decide) ?_
  refine J_p3_0 hC k_X3_36 dX3_count_2 h (fun M1 _ h => ?_)
  refine J_iload_n (j := 1) hC dX3_count_5 rfl ?_
  refine J_iconst (v := 0) hC dX3_count_6 (by decide) ?_
  refine J_bipush (v := 7) hC dX3_count_7 (by decide) ?_
  refine bnd_c h (fun w2 hw h => ?_)
  refine J_callS (As := [.int a1, .int 0, .int 7]) (M' := M1) (rv := some (Value.int w2)) (st := []) hC (fun l hl => cX3_in_ok M1 a1 0 7 _ hw l hl) sm_X3_in k_X3_40 rfl ⟨Nat.le_of_ble_eq_true rfl, Nat.le_of_ble_eq_true rfl⟩ (Nat.zero_le _) ⟨Nat.le_of_ble_eq_true rfl, Nat.le_of_ble_eq_true rfl⟩ dX3_count_9 rfl ?_
  refine J_if_eq (tgt := 23) hC dX3_count_12 (by decide) (fun c3 => ?_) (fun c3 => ?_)
  · have h := ite_t c3 h
    refine J_aload_n (j := 0) hC dX3_count_23 rfl ?_
    refine J_iconst (v := 1) hC dX3_count_24 (by decide) ?_
    refine ck_c h (fun ho h => ?_)
    refine bnd_c h (fun w4 hw h => ?_)
    refine J_callV (As := [.int 1]) (M' := w4.1) (rv := some (Value.int w4.2)) (st := []) hC (fun l hl => cX3_fails_ok M1 a0 1 _ hw l hl) vm_X3_fails k_X3_79 ho ⟨rfl, rfl⟩ rfl ⟨Nat.le_of_ble_eq_true rfl, Nat.le_of_ble_eq_true rfl⟩ (Nat.zero_le _) ⟨Nat.le_of_ble_eq_true rfl, Nat.le_of_ble_eq_true rfl⟩ dX3_count_25 rfl ?_
    exact J_iret hC dX3_count_28 (by have h9 := Option.some.inj h; subst h9; rfl) (Nat.le_of_ble_eq_true rfl) (Nat.le_of_ble_eq_true rfl)
  · have h := ite_f c3 h
    refine J_aload_n (j := 0) hC dX3_count_15 rfl ?_
    refine J_iload_n (j := 1) hC dX3_count_16 rfl ?_
    refine ck_c h (fun ho h => ?_)
    refine bnd_c h (fun w5 hw h => ?_)
    refine J_callV (As := [.int a1]) (M' := M1) (rv := some (Value.int w5)) (st := []) hC (fun l hl => cX3_tellsCount_ok M1 a0 a1 _ hw l hl) vm_X3_tellsCount k_X3_148 ho ⟨rfl, rfl⟩ rfl ⟨Nat.le_of_ble_eq_true rfl, Nat.le_of_ble_eq_true rfl⟩ (Nat.zero_le _) ⟨Nat.le_of_ble_eq_true rfl, Nat.le_of_ble_eq_true rfl⟩ dX3_count_17 rfl ?_
    refine J_goto (tgt := 28) hC dX3_count_20 (by decide) ?_
    exact J_iret hC dX3_count_28 (by have h9 := Option.some.inj h; subst h9; rfl) (Nat.le_of_ble_eq_true rfl) (Nat.le_of_ble_eq_true rfl)
abbrev rm_X3_share : Room := { frames := 3, cells := 0, slots := 0, locals := 68 }

set_option maxHeartbeats 4000000 in
set_option maxRecDepth 100000 in
theorem cX3_share_ok (M : Mem) (a0 : Option Nat) (a1 : Int32) (r0 : Mem × UInt64) (h : fX3_share M a0 a1 = some r0) : ∀ l : Launch, l.stackTraces = false → Con false l yX3_share cX3_share 3 (some .double) rm_X3_share [rf a0, .int a1] M (r0.1, Sum.inr (some (Value.double r0.2))) := by
  intro l hst
  refine Con.enter hst (own := RX3) (by decide +kernel) rfl (by exact Nat.le_of_ble_eq_true rfl) (lv0 := [(0, rf a0), (1, .int a1)]) (rfl) (fun C hC hin => ?_)
  unfold fX3_share at h
  refine J_aload_n (j := 0) hC dX3_share_0 rfl ?_
  refine J_iload_n (j := 1) hC dX3_share_1 rfl ?_
  refine J_iconst (v := 1) hC dX3_share_2 (by decide) ?_
  refine ck_c h (fun ho h => ?_)
  refine bnd_c h (fun w1 hw h => ?_)
  refine J_callV (As := [.int a1, .int 1]) (M' := w1.1) (rv := some (Value.int w1.2)) (st := []) hC (fun l hl => cX3_often_ok M a0 a1 1 _ hw l hl) vm_X3_often k_X3_107 ho ⟨rfl, rfl⟩ rfl ⟨Nat.le_of_ble_eq_true rfl, Nat.le_of_ble_eq_true rfl⟩ (Nat.zero_le _) ⟨Nat.le_of_ble_eq_true rfl, Nat.le_of_ble_eq_true rfl⟩ dX3_share_3 rfl ?_
  refine J_aload_n (j := 0) hC dX3_share_6 rfl ?_
  refine J_iload_n (j := 1) hC dX3_share_7 rfl ?_
  refine J_iconst (v := (-1)) hC dX3_share_8 (by decide) ?_
  refine ck_c h (fun ho h => ?_)
  refine bnd_c h (fun w2 hw h => ?_)
  refine J_callV (As := [.int a1, .int (-1)]) (M' := w2.1) (rv := some (Value.int w2.2)) (st := [.int w1.2]) hC (fun l hl => cX3_often_ok w1.1 a0 a1 (-1) _ hw l hl) vm_X3_often k_X3_107 ho ⟨rfl, rfl⟩ rfl ⟨Nat.le_of_ble_eq_true rfl, Nat.le_of_ble_eq_true rfl⟩ (Nat.le_of_ble_eq_true rfl) ⟨Nat.le_of_ble_eq_true rfl, Nat.le_of_ble_eq_true rfl⟩ dX3_share_9 rfl ?_
  refine J_iadd hC dX3_share_12 ?_
  refine J_aload_n (j := 0) hC dX3_share_13 rfl ?_
  refine J_iload_n (j := 1) hC dX3_share_14 rfl ?_
  refine J_iconst (v := 0) hC dX3_share_15 (by decide) ?_
  refine ck_c h (fun ho h => ?_)
  refine bnd_c h (fun w3 hw h => ?_)
  refine J_callV (As := [.int a1, .int 0]) (M' := w3.1) (rv := some (Value.int w3.2)) (st := [.int (w1.2 + w2.2)]) hC (fun l hl => cX3_often_ok w2.1 a0 a1 0 _ hw l hl) vm_X3_often k_X3_107 ho ⟨rfl, rfl⟩ rfl ⟨Nat.le_of_ble_eq_true rfl, Nat.le_of_ble_eq_true rfl⟩ (Nat.le_of_ble_eq_true rfl) ⟨Nat.le_of_ble_eq_true rfl, Nat.le_of_ble_eq_true rfl⟩ dX3_share_16 rfl ?_
  refine J_iadd hC dX3_share_19 ?_
  refine J_istore_n (i := 2) (lv' := [(2, .int ((w1.2 + w2.2) + w3.2)), (0, rf a0), (1, .int a1)]) rfl hC dX3_share_20 (by decide) rfl ?_
  refine J_aload_n (j := 1) hC dX3_share_21 rfl ?_
  refine J_iload_n (j := 2) hC dX3_share_22 rfl ?_
  refine ck_c h (fun ho h => ?_)
  refine bnd_c h (fun w4 hw h => ?_)
  refine J_callV (As := [.int a1]) (M' := w3.1) (rv := some (Value.int w4)) (st := []) hC (fun l hl => cX3_degree_ok w3.1 a0 a1 _ hw l hl) vm_X3_degree k_X3_51 ho ⟨rfl, rfl⟩ rfl ⟨Nat.le_of_ble_eq_true rfl, Nat.le_of_ble_eq_true rfl⟩ (Nat.zero_le _) ⟨Nat.le_of_ble_eq_true rfl, Nat.le_of_ble_eq_true rfl⟩ dX3_share_23 rfl ?_
  refine J_if_ne (tgt := 33) hC dX3_share_26 (by decide) (fun c5 => ?_) (fun c5 => ?_)
  · have h := ite_f c5 h
    refine J_iload_n (j := 0) hC dX3_share_33 rfl ?_
    refine J_i2d hC dX3_share_34 ?_
    refine J_aload_n (j := 1) hC dX3_share_35 rfl ?_
    refine J_iload_n (j := 2) hC dX3_share_36 rfl ?_
    refine ck_c h (fun ho h => ?_)
    refine bnd_c h (fun w6 hw h => ?_)
    refine J_callV (As := [.int a1]) (M' := w3.1) (rv := some (Value.int w6)) (st := [.double (FP.i2d ((w1.2 + w2.2) + w3.2))]) hC (fun l hl => cX3_degree_ok w3.1 a0 a1 _ hw l hl) vm_X3_degree k_X3_51 ho ⟨rfl, rfl⟩ rfl ⟨Nat.le_of_ble_eq_true rfl, Nat.le_of_ble_eq_true rfl⟩ (Nat.le_of_ble_eq_true rfl) ⟨Nat.le_of_ble_eq_true rfl, Nat.le_of_ble_eq_true rfl⟩ dX3_share_37 rfl ?_
    refine J_i2d hC dX3_share_40 ?_
    refine chk_c h (fun hn h => ?_)
    refine J_ddiv hC dX3_share_41 (n64_of hn) ?_
    exact J_dret hC dX3_share_42 (by have h9 := Option.some.inj h; subst h9; rfl) (Nat.le_of_ble_eq_true rfl) (Nat.le_of_ble_eq_true rfl)
  · have h := ite_t c5 h
    refine J_dconst1 hC dX3_share_29 ?_
    refine J_goto (tgt := 42) hC dX3_share_30 (by decide) ?_
    exact J_dret hC dX3_share_42 (by have h9 := Option.some.inj h; subst h9; rfl) (Nat.le_of_ble_eq_true rfl) (Nat.le_of_ble_eq_true rfl)
abbrev rm_X3_takenShare : Room := { frames := 4, cells := 0, slots := 0, locals := 90 }

set_option maxHeartbeats 4000000 in
set_option maxRecDepth 100000 in
theorem cX3_takenShare_ok (M : Mem) (a0 : Option Nat) (a1 : Int32) (r0 : Mem × UInt64) (h : fX3_takenShare M a0 a1 = some r0) : ∀ l : Launch, l.stackTraces = false → Con false l yX3_takenShare cX3_takenShare 2 (some .double) rm_X3_takenShare [rf a0, .int a1] M (r0.1, Sum.inr (some (Value.double r0.2))) := by
  intro l hst
  refine Con.enter hst (own := RX3) (by decide +kernel) rfl (by exact Nat.le_of_ble_eq_true rfl) (lv0 := [(0, rf a0), (1, .int a1)]) (rfl) (fun C hC hin => ?_)
  unfold fX3_takenShare at h
  refine J_aload_n (j := 0) hC dX3_takenShare_0 rfl ?_
  refine J_iconst (v := 0) hC dX3_takenShare_1 (by decide) ?_
  refine J_p3_0 hC k_X3_36 dX3_takenShare_2 h (fun M1 _ h => ?_)
  refine J_iload_n (j := 1) hC dX3_takenShare_5 rfl ?_
  refine bnd_c h (fun w2 hw h => ?_)
  refine J_callS (As := [.int a1]) (M' := M1) (rv := some (Value.int w2)) (st := []) hC (fun l hl => cX3_isPoly_ok M1 a1 _ hw l hl) sm_X3_isPoly k_X3_75 rfl ⟨Nat.le_of_ble_eq_true rfl, Nat.le_of_ble_eq_true rfl⟩ (Nat.zero_le _) ⟨Nat.le_of_ble_eq_true rfl, Nat.le_of_ble_eq_true rfl⟩ dX3_takenShare_6 rfl ?_
  refine J_if_eq (tgt := 20) hC dX3_takenShare_9 (by decide) (fun c3 => ?_) (fun c3 => ?_)
  · have h := ite_t c3 h
    refine J_aload_n (j := 0) hC dX3_takenShare_20 rfl ?_
    refine J_iconst (v := 1) hC dX3_takenShare_21 (by decide) ?_
    refine ck_c h (fun ho h => ?_)
    refine bnd_c h (fun w4 hw h => ?_)
    refine J_callV (As := [.int 1]) (M' := w4.1) (rv := some (Value.int w4.2)) (st := []) hC (fun l hl => cX3_fails_ok M1 a0 1 _ hw l hl) vm_X3_fails k_X3_79 ho ⟨rfl, rfl⟩ rfl ⟨Nat.le_of_ble_eq_true rfl, Nat.le_of_ble_eq_true rfl⟩ (Nat.zero_le _) ⟨Nat.le_of_ble_eq_true rfl, Nat.le_of_ble_eq_true rfl⟩ dX3_takenShare_22 rfl ?_
    refine J_i2d hC dX3_takenShare_25 ?_
    exact J_dret hC dX3_takenShare_26 (by have h9 := Option.some.inj h; subst h9; rfl) (Nat.le_of_ble_eq_true rfl) (Nat.le_of_ble_eq_true rfl)
  · have h := ite_f c3 h
    refine J_aload_n (j := 0) hC dX3_takenShare_12 rfl ?_
    refine J_iload_n (j := 1) hC dX3_takenShare_13 rfl ?_
    refine ck_c h (fun ho h => ?_)
    refine bnd_c h (fun w5 hw h => ?_)
    refine J_callV (As := [.int a1]) (M' := w5.1) (rv := some (Value.double w5.2)) (st := []) hC (fun l hl => cX3_share_ok M1 a0 a1 _ hw l hl) vm_X3_share k_X3_151 ho ⟨rfl, rfl⟩ rfl ⟨Nat.le_of_ble_eq_true rfl, Nat.le_of_ble_eq_true rfl⟩ (Nat.zero_le _) ⟨Nat.le_of_ble_eq_true rfl, Nat.le_of_ble_eq_true rfl⟩ dX3_takenShare_14 rfl ?_
    refine J_goto (tgt := 26) hC dX3_takenShare_17 (by decide) ?_
    exact J_dret hC dX3_takenShare_26 (by have h9 := Option.some.inj h; subst h9; rfl) (Nat.le_of_ble_eq_true rfl) (Nat.le_of_ble_eq_true rfl)
abbrev rm_X3_hashes : Room := { frames := 0, cells := 0, slots := 0, locals := 0 }

set_option maxHeartbeats 4000000 in
set_option maxRecDepth 100000 in
theorem cX3_hashes_ok (M : Mem) (a0 : Option Nat) (a1 : Int64) (r0 : Mem) (h : fX3_hashes M a0 a1 = some r0) : ∀ l : Launch, l.stackTraces = false → Con false l yX3_hashes cX3_hashes 3 none rm_X3_hashes [rf a0, .long a1] M (r0, Sum.inr none) := by
  intro l hst
  refine Con.enter hst (own := RX3) (by decide +kernel) rfl (by exact Nat.le_of_ble_eq_true rfl) (lv0 := [(0, rf a0), (1, .long a1)]) (rfl) (fun C hC hin => ?_)
  unfold fX3_hashes at h
  refine J_aload_n (j := 0) hC dX3_hashes_0 rfl ?_
  refine J_ldc2 (v := 31) hC k_X3_155 dX3_hashes_1 ?_
  refine J_aload_n (j := 0) hC dX3_hashes_4 rfl ?_
  refine J_g3_12 hC k_X3_157 dX3_hashes_5 h (fun v1 _ h => ?_)
  refine J_lmul hC dX3_hashes_8 ?_
  refine J_lload_n (j := 1) hC dX3_hashes_9 rfl ?_
  refine J_ladd hC dX3_hashes_10 ?_
  refine J_p3_12 hC k_X3_157 dX3_hashes_11 h (fun M2 _ h => ?_)
  exact J_vret hC dX3_hashes_14 (by have h9 := Option.some.inj h; subst h9; rfl) (Nat.le_of_ble_eq_true rfl) (Nat.le_of_ble_eq_true rfl)
abbrev rm_Jxe99ae_isNaN_b9ae7 : Room := { frames := 0, cells := 0, slots := 0, locals := 0 }

set_option maxHeartbeats 4000000 in
set_option maxRecDepth 100000 in
theorem cJxe99ae_isNaN_b9ae7_ok (M : Mem) (a0 : UInt64) (r0 : Int32) (h : fJxe99ae_isNaN_b9ae7 M a0 = some r0) : ∀ l : Launch, l.stackTraces = false → Con false l yJxe99ae_isNaN_b9ae7 cJxe99ae_isNaN_b9ae7 2 (some .boolean) rm_Jxe99ae_isNaN_b9ae7 [.double a0] M (M, Sum.inr (some (Value.int r0))) := by
  intro l hst
  refine Con.enter hst (own := RJxe99ae) (by decide +kernel) rfl (by exact Nat.le_of_ble_eq_true rfl) (lv0 := [(0, .double a0)]) (rfl) (fun C hC hin => ?_)
  unfold fJxe99ae_isNaN_b9ae7 at h
  refine J_dload_n (j := 0) hC dJxe99ae_isNaN_b9ae7_0 rfl ?_
  refine J_dload_n (j := 0) hC dJxe99ae_isNaN_b9ae7_1 rfl ?_
  refine J_dcmp hC dJxe99ae_isNaN_b9ae7_2 ?_
  have hj : ∀ (z1 : Int32), z1 = (if (Op.cmpValue (FP.dcmp a0 a0) .l) = 0 then 0 else 1) → J C 0 0 M 11 [(0, .double a0)] [.int z1] := by
    intro z1 ez1
    subst ez1
    exact J_zret hC dJxe99ae_isNaN_b9ae7_11 (by (repeat' split) <;> decide) (by have h9 := Option.some.inj h; subst h9; rfl) (Nat.le_of_ble_eq_true rfl) (Nat.le_of_ble_eq_true rfl)
  refine J_if_eq (tgt := 10) hC dJxe99ae_isNaN_b9ae7_3 (by decide) (fun c2 => ?_) (fun c2 => ?_)
  · refine J_iconst (v := 0) hC dJxe99ae_isNaN_b9ae7_10 (by decide) ?_
    refine J_sub [0] rfl ?_
    exact hj _ (if_pos c2).symm
  · refine J_iconst (v := 1) hC dJxe99ae_isNaN_b9ae7_6 (by decide) ?_
    refine J_goto (tgt := 11) hC dJxe99ae_isNaN_b9ae7_7 (by decide) ?_
    refine J_sub [0] rfl ?_
    exact hj _ (if_neg c2).symm
abbrev rm_Jxe99ae_doubleToLongBits_ccdee : Room := { frames := 1, cells := 0, slots := 0, locals := 23 }

set_option maxHeartbeats 4000000 in
set_option maxRecDepth 100000 in
theorem cJxe99ae_doubleToLongBits_ccdee_ok (M : Mem) (a0 : UInt64) (r0 : Int64) (h : fJxe99ae_doubleToLongBits_ccdee M a0 = some r0) : ∀ l : Launch, l.stackTraces = false → Con false l yJxe99ae_doubleToLongBits_ccdee cJxe99ae_doubleToLongBits_ccdee 2 (some .long) rm_Jxe99ae_doubleToLongBits_ccdee [.double a0] M (M, Sum.inr (some (Value.long r0))) := by
  intro l hst
  refine Con.enter hst (own := RJxe99ae) (by decide +kernel) rfl (by exact Nat.le_of_ble_eq_true rfl) (lv0 := [(0, .double a0)]) (rfl) (fun C hC hin => ?_)
  unfold fJxe99ae_doubleToLongBits_ccdee at h
  refine J_dload_n (j := 0) hC dJxe99ae_doubleToLongBits_ccdee_0 rfl ?_
  refine bnd_c h (fun w1 hw h => ?_)
  refine J_callS (As := [.double a0]) (M' := M) (rv := some (Value.int w1)) (st := []) hC (fun l hl => cJxe99ae_isNaN_b9ae7_ok M a0 _ hw l hl) sm_Jxe99ae_isNaN_b9ae7 k_Jxe99ae_122 rfl ⟨Nat.le_of_ble_eq_true rfl, Nat.le_of_ble_eq_true rfl⟩ (Nat.zero_le _) ⟨Nat.le_of_ble_eq_true rfl, Nat.le_of_ble_eq_true rfl⟩ dJxe99ae_doubleToLongBits_ccdee_1 rfl ?_
  refine J_if_ne (tgt := 12) hC dJxe99ae_doubleToLongBits_ccdee_4 (by decide) (fun c2 => ?_) (fun c2 => ?_)
  · have h := ite_f c2 h
    refine J_ldc2 (v := 9221120237041090560) hC k_Jxe99ae_137 dJxe99ae_doubleToLongBits_ccdee_12 ?_
    exact J_lret hC dJxe99ae_doubleToLongBits_ccdee_15 (by have h9 := Option.some.inj h; subst h9; rfl) (Nat.le_of_ble_eq_true rfl) (Nat.le_of_ble_eq_true rfl)
  · have h := ite_t c2 h
    refine J_dload_n (j := 0) hC dJxe99ae_doubleToLongBits_ccdee_7 rfl ?_
    refine J_raw hC (Nat.le_of_ble_eq_true rfl) (Nat.le_of_ble_eq_true rfl) dJxe99ae_doubleToLongBits_ccdee_8 ?_
    exact J_lret hC dJxe99ae_doubleToLongBits_ccdee_11 (by have h9 := Option.some.inj h; subst h9; rfl) (Nat.le_of_ble_eq_true rfl) (Nat.le_of_ble_eq_true rfl)
abbrev rm_X3_hashesPoly : Room := { frames := 4, cells := 0, slots := 0, locals := 92 }

set_option maxHeartbeats 4000000 in
set_option maxRecDepth 100000 in
theorem tX3_hashesPoly_2 {C : JC} {r0 : Mem} (x0 : Option Nat) (x1 : Int32) (hC : Ok C false cX3_hashesPoly 4 rm_X3_hashesPoly none RX3 (r0, Sum.inr none))  (k24 : Mem → Int32 → Option (Mem)) (hk24 : ∀ (M : Mem) (x2 : Int32), k24 M x2 = some r0 → J C 0 0 M 24 [(0, rf x0), (1, .int x1), (2, .int x2)] []) : ∀ (n : Nat) (M : Mem) (x2 : Int32), fX3_hashesPoly_2 x0 x1 k24 n M x2 = some r0 → J C 0 0 M 2 [(0, rf x0), (1, .int x1), (2, .int x2)] [] := by
  intro n
  induction n with
  | zero => intro M x2 h; have h : none = some r0 := h; cases h
  | succ n ih =>
    intro M x2 h
    rw [fX3_hashesPoly_2] at h
    refine J_iload_n (j := 2) hC dX3_hashesPoly_2 rfl ?_
    refine J_iconst (v := 4) hC dX3_hashesPoly_3 (by decide) ?_
    refine J_icmp_ge (tgt := 24) hC dX3_hashesPoly_4 (by decide) (fun c1 => ?_) (fun c1 => ?_)
    · have h := ite_t c1 h
      refine J_sub [0, 1, 2] rfl ?_
      exact hk24 M x2 h
    · have h := ite_f c1 h
      refine J_aload_n (j := 0) hC dX3_hashesPoly_7 rfl ?_
      refine J_aload_n (j := 0) hC dX3_hashesPoly_8 rfl ?_
      refine J_iload_n (j := 1) hC dX3_hashesPoly_9 rfl ?_
      refine J_iload_n (j := 2) hC dX3_hashesPoly_10 rfl ?_
      refine ck_c h (fun ho h => ?_)
      refine bnd_c h (fun w2 hw h => ?_)
      refine J_callV (As := [.int x1, .int x2]) (M' := w2.1) (rv := some (Value.int w2.2)) (st := [rf x0]) hC (fun l hl => cX3_tells_ok M x0 x1 x2 _ hw l hl) vm_X3_tells k_X3_114 ho ⟨rfl, rfl⟩ rfl ⟨Nat.le_of_ble_eq_true rfl, Nat.le_of_ble_eq_true rfl⟩ (Nat.le_of_ble_eq_true rfl) ⟨Nat.le_of_ble_eq_true rfl, Nat.le_of_ble_eq_true rfl⟩ dX3_hashesPoly_11 rfl ?_
      refine J_i2l hC dX3_hashesPoly_14 ?_
      refine ck_c h (fun ho h => ?_)
      refine bnd_c h (fun w3 hw h => ?_)
      refine J_callV (As := [.long w2.2.toInt64]) (M' := w3) (rv := none) (st := []) hC (fun l hl => cX3_hashes_ok w2.1 x0 w2.2.toInt64 _ hw l hl) vm_X3_hashes k_X3_161 ho ⟨rfl, rfl⟩ rfl ⟨Nat.le_of_ble_eq_true rfl, Nat.le_of_ble_eq_true rfl⟩ (Nat.zero_le _) ⟨Nat.le_of_ble_eq_true rfl, Nat.le_of_ble_eq_true rfl⟩ dX3_hashesPoly_15 rfl ?_
      refine J_inc (j := 2) (k := 1) (lv' := [(2, .int (x2 + 1)), (0, rf x0), (1, .int x1)]) hC dX3_hashesPoly_18 (by decide) rfl (by decide) rfl ?_
      refine J_goto (tgt := 2) hC dX3_hashesPoly_21 (by decide) ?_
      refine J_sub [1, 2, 0] rfl ?_
      exact ih w3 (x2 + 1) h
set_option maxHeartbeats 4000000 in
set_option maxRecDepth 100000 in
theorem tX3_hashesPoly_26 {C : JC} {r0 : Mem} (x0 : Option Nat) (x1 : Int32) (hC : Ok C false cX3_hashesPoly 4 rm_X3_hashesPoly none RX3 (r0, Sum.inr none))  (k49 : Mem → Int32 → Option (Mem)) (hk49 : ∀ (M : Mem) (x2 : Int32), k49 M x2 = some r0 → J C 0 0 M 49 [(0, rf x0), (1, .int x1), (2, .int x2)] []) : ∀ (n : Nat) (M : Mem) (x2 : Int32), fX3_hashesPoly_26 x0 x1 k49 n M x2 = some r0 → J C 0 0 M 26 [(0, rf x0), (1, .int x1), (2, .int x2)] [] := by
  intro n
  induction n with
  | zero => intro M x2 h; have h : none = some r0 := h; cases h
  | succ n ih =>
    intro M x2 h
    rw [fX3_hashesPoly_26] at h
    refine J_iload_n (j := 2) hC dX3_hashesPoly_26 rfl ?_
    refine J_bipush (v := 9) hC dX3_hashesPoly_27 (by decide) ?_
    refine J_icmp_ge (tgt := 49) hC dX3_hashesPoly_29 (by decide) (fun c6 => ?_) (fun c6 => ?_)
    · have h := ite_t c6 h
      refine J_sub [0, 1, 2] rfl ?_
      exact hk49 M x2 h
    · have h := ite_f c6 h
      refine J_aload_n (j := 0) hC dX3_hashesPoly_32 rfl ?_
      refine J_aload_n (j := 0) hC dX3_hashesPoly_33 rfl ?_
      refine J_iload_n (j := 1) hC dX3_hashesPoly_34 rfl ?_
      refine J_iload_n (j := 2) hC dX3_hashesPoly_35 rfl ?_
      refine ck_c h (fun ho h => ?_)
      refine bnd_c h (fun w7 hw h => ?_)
      refine J_callV (As := [.int x1, .int x2]) (M' := M) (rv := some (Value.int w7)) (st := [rf x0]) hC (fun l hl => cX3_signAt_ok M x0 x1 x2 _ hw l hl) vm_X3_signAt k_X3_44 ho ⟨rfl, rfl⟩ rfl ⟨Nat.le_of_ble_eq_true rfl, Nat.le_of_ble_eq_true rfl⟩ (Nat.le_of_ble_eq_true rfl) ⟨Nat.le_of_ble_eq_true rfl, Nat.le_of_ble_eq_true rfl⟩ dX3_hashesPoly_36 rfl ?_
      refine J_i2l hC dX3_hashesPoly_39 ?_
      refine ck_c h (fun ho h => ?_)
      refine bnd_c h (fun w8 hw h => ?_)
      refine J_callV (As := [.long w7.toInt64]) (M' := w8) (rv := none) (st := []) hC (fun l hl => cX3_hashes_ok M x0 w7.toInt64 _ hw l hl) vm_X3_hashes k_X3_161 ho ⟨rfl, rfl⟩ rfl ⟨Nat.le_of_ble_eq_true rfl, Nat.le_of_ble_eq_true rfl⟩ (Nat.zero_le _) ⟨Nat.le_of_ble_eq_true rfl, Nat.le_of_ble_eq_true rfl⟩ dX3_hashesPoly_40 rfl ?_
      refine J_inc (j := 2) (k := 1) (lv' := [(2, .int (x2 + 1)), (0, rf x0), (1, .int x1)]) hC dX3_hashesPoly_43 (by decide) rfl (by decide) rfl ?_
      refine J_goto (tgt := 26) hC dX3_hashesPoly_46 (by decide) ?_
      refine J_sub [1, 2, 0] rfl ?_
      exact ih w8 (x2 + 1) h
set_option maxHeartbeats 4000000 in
set_option maxRecDepth 100000 in
theorem tX3_hashesPoly_51 {C : JC} {r0 : Mem} (x0 : Option Nat) (x1 : Int32) (hC : Ok C false cX3_hashesPoly 4 rm_X3_hashesPoly none RX3 (r0, Sum.inr none))  (k137 : Mem → Int32 → Option (Mem)) (hk137 : ∀ (M : Mem) (x2 : Int32), k137 M x2 = some r0 → J C 0 0 M 137 [(0, rf x0), (1, .int x1), (2, .int x2)] []) : ∀ (n : Nat) (M : Mem) (x2 : Int32), fX3_hashesPoly_51 x0 x1 k137 n M x2 = some r0 → J C 0 0 M 51 [(0, rf x0), (1, .int x1), (2, .int x2)] [] := by
  intro n
  induction n with
  | zero => intro M x2 h; have h : none = some r0 := h; cases h
  | succ n ih =>
    intro M x2 h
    rw [fX3_hashesPoly_51] at h
    refine J_iload_n (j := 2) hC dX3_hashesPoly_51 rfl ?_
    refine J_iconst (v := 2) hC dX3_hashesPoly_52 (by decide) ?_
    refine J_icmp_ge (tgt := 137) hC dX3_hashesPoly_53 (by decide) (fun c11 => ?_) (fun c11 => ?_)
    · have h := ite_t c11 h
      refine J_sub [0, 1, 2] rfl ?_
      exact hk137 M x2 h
    · have h := ite_f c11 h
      refine J_aload_n (j := 0) hC dX3_hashesPoly_56 rfl ?_
      refine J_aload_n (j := 0) hC dX3_hashesPoly_57 rfl ?_
      refine J_iload_n (j := 1) hC dX3_hashesPoly_58 rfl ?_
      refine J_iload_n (j := 2) hC dX3_hashesPoly_59 rfl ?_
      refine ck_c h (fun ho h => ?_)
      refine bnd_c h (fun w12 hw h => ?_)
      refine J_callV (As := [.int x1, .int x2]) (M' := M) (rv := some (Value.int w12)) (st := [rf x0]) hC (fun l hl => cX3_has_ok M x0 x1 x2 _ hw l hl) vm_X3_has k_X3_117 ho ⟨rfl, rfl⟩ rfl ⟨Nat.le_of_ble_eq_true rfl, Nat.le_of_ble_eq_true rfl⟩ (Nat.le_of_ble_eq_true rfl) ⟨Nat.le_of_ble_eq_true rfl, Nat.le_of_ble_eq_true rfl⟩ dX3_hashesPoly_60 rfl ?_
      have hj : ∀ (z25 : Int64), z25 = (if w12 = 0 then 0 else 1) → J C 0 0 M 71 [(0, rf x0), (1, .int x1), (2, .int x2)] [.long z25, rf x0] := by
        intro z25 ez25
        subst ez25
        refine ck_c h (fun ho h => ?_)
        refine bnd_c h (fun w13 hw h => ?_)
        refine J_callV (As := [.long (if w12 = 0 then 0 else 1)]) (M' := w13) (rv := none) (st := []) hC (fun l hl => cX3_hashes_ok M x0 (if w12 = 0 then 0 else 1) _ hw l hl) vm_X3_hashes k_X3_161 ho ⟨rfl, rfl⟩ rfl ⟨Nat.le_of_ble_eq_true rfl, Nat.le_of_ble_eq_true rfl⟩ (Nat.zero_le _) ⟨Nat.le_of_ble_eq_true rfl, Nat.le_of_ble_eq_true rfl⟩ dX3_hashesPoly_71 rfl ?_
        refine J_aload_n (j := 0) hC dX3_hashesPoly_74 rfl ?_
        refine J_aload_n (j := 0) hC dX3_hashesPoly_75 rfl ?_
        refine J_iload_n (j := 1) hC dX3_hashesPoly_76 rfl ?_
        refine J_iload_n (j := 2) hC dX3_hashesPoly_77 rfl ?_
        refine ck_c h (fun ho h => ?_)
        refine bnd_c h (fun w14 hw h => ?_)
        refine J_callV (As := [.int x1, .int x2]) (M' := w14.1) (rv := some (Value.int w14.2)) (st := [rf x0]) hC (fun l hl => cX3_often_ok w13 x0 x1 x2 _ hw l hl) vm_X3_often k_X3_107 ho ⟨rfl, rfl⟩ rfl ⟨Nat.le_of_ble_eq_true rfl, Nat.le_of_ble_eq_true rfl⟩ (Nat.le_of_ble_eq_true rfl) ⟨Nat.le_of_ble_eq_true rfl, Nat.le_of_ble_eq_true rfl⟩ dX3_hashesPoly_78 rfl ?_
        refine J_i2l hC dX3_hashesPoly_81 ?_
        refine ck_c h (fun ho h => ?_)
        refine bnd_c h (fun w15 hw h => ?_)
        refine J_callV (As := [.long w14.2.toInt64]) (M' := w15) (rv := none) (st := []) hC (fun l hl => cX3_hashes_ok w14.1 x0 w14.2.toInt64 _ hw l hl) vm_X3_hashes k_X3_161 ho ⟨rfl, rfl⟩ rfl ⟨Nat.le_of_ble_eq_true rfl, Nat.le_of_ble_eq_true rfl⟩ (Nat.zero_le _) ⟨Nat.le_of_ble_eq_true rfl, Nat.le_of_ble_eq_true rfl⟩ dX3_hashesPoly_82 rfl ?_
        refine J_aload_n (j := 0) hC dX3_hashesPoly_85 rfl ?_
        refine J_aload_n (j := 0) hC dX3_hashesPoly_86 rfl ?_
        refine J_iload_n (j := 1) hC dX3_hashesPoly_87 rfl ?_
        refine J_iload_n (j := 2) hC dX3_hashesPoly_88 rfl ?_
        refine ck_c h (fun ho h => ?_)
        refine bnd_c h (fun w16 hw h => ?_)
        refine J_callV (As := [.int x1, .int x2]) (M' := w16.1) (rv := some (Value.int w16.2)) (st := [rf x0]) hC (fun l hl => cX3_often_ok w15 x0 x1 x2 _ hw l hl) vm_X3_often k_X3_107 ho ⟨rfl, rfl⟩ rfl ⟨Nat.le_of_ble_eq_true rfl, Nat.le_of_ble_eq_true rfl⟩ (Nat.le_of_ble_eq_true rfl) ⟨Nat.le_of_ble_eq_true rfl, Nat.le_of_ble_eq_true rfl⟩ dX3_hashesPoly_89 rfl ?_
        refine J_i2l hC dX3_hashesPoly_92 ?_
        refine ck_c h (fun ho h => ?_)
        refine bnd_c h (fun w17 hw h => ?_)
        refine J_callV (As := [.long w16.2.toInt64]) (M' := w17) (rv := none) (st := []) hC (fun l hl => cX3_hashes_ok w16.1 x0 w16.2.toInt64 _ hw l hl) vm_X3_hashes k_X3_161 ho ⟨rfl, rfl⟩ rfl ⟨Nat.le_of_ble_eq_true rfl, Nat.le_of_ble_eq_true rfl⟩ (Nat.zero_le _) ⟨Nat.le_of_ble_eq_true rfl, Nat.le_of_ble_eq_true rfl⟩ dX3_hashesPoly_93 rfl ?_
        refine J_aload_n (j := 0) hC dX3_hashesPoly_96 rfl ?_
        refine J_iload_n (j := 1) hC dX3_hashesPoly_97 rfl ?_
        refine J_iload_n (j := 2) hC dX3_hashesPoly_98 rfl ?_
        refine ck_c h (fun ho h => ?_)
        refine bnd_c h (fun w18 hw h => ?_)
        refine J_callV (As := [.int x1, .int x2]) (M' := w18.1) (rv := some (Value.int w18.2)) (st := []) hC (fun l hl => cX3_divides_ok w17 x0 x1 x2 _ hw l hl) vm_X3_divides k_X3_91 ho ⟨rfl, rfl⟩ rfl ⟨Nat.le_of_ble_eq_true rfl, Nat.le_of_ble_eq_true rfl⟩ (Nat.zero_le _) ⟨Nat.le_of_ble_eq_true rfl, Nat.le_of_ble_eq_true rfl⟩ dX3_hashesPoly_99 rfl ?_
        refine J_istore_n (i := 3) (lv' := [(3, .int w18.2), (0, rf x0), (1, .int x1), (2, .int x2)]) rfl hC dX3_hashesPoly_102 (by decide) rfl ?_
        refine J_aload_n (j := 1) hC dX3_hashesPoly_103 rfl ?_
        refine J_iload_n (j := 0) hC dX3_hashesPoly_104 rfl ?_
        refine J_i2l hC dX3_hashesPoly_105 ?_
        refine ck_c h (fun ho h => ?_)
        refine bnd_c h (fun w19 hw h => ?_)
        refine J_callV (As := [.long w18.2.toInt64]) (M' := w19) (rv := none) (st := []) hC (fun l hl => cX3_hashes_ok w18.1 x0 w18.2.toInt64 _ hw l hl) vm_X3_hashes k_X3_161 ho ⟨rfl, rfl⟩ rfl ⟨Nat.le_of_ble_eq_true rfl, Nat.le_of_ble_eq_true rfl⟩ (Nat.zero_le _) ⟨Nat.le_of_ble_eq_true rfl, Nat.le_of_ble_eq_true rfl⟩ dX3_hashesPoly_106 rfl ?_
        refine J_aload_n (j := 1) hC dX3_hashesPoly_109 rfl ?_
        refine J_iload_n (j := 0) hC dX3_hashesPoly_110 rfl ?_
        refine J_if_ne (tgt := 120) hC dX3_hashesPoly_111 (by decide) (fun c20 => ?_) (fun c20 => ?_)
        · have h := ite_f c20 h
          refine J_aload_n (j := 1) hC dX3_hashesPoly_120 rfl ?_
          refine J_g3_9 hC k_X3_29 dX3_hashesPoly_121 h (fun v22 _ h => ?_)
          refine bnd_c h (fun w23 hw h => ?_)
          refine J_callS (As := [rf v22]) (M' := w19) (rv := some (Value.int w23)) (st := [rf x0]) hC (fun l hl => cX3_form_ok w19 v22 _ hw l hl) sm_X3_form k_X3_110 rfl ⟨Nat.le_of_ble_eq_true rfl, Nat.le_of_ble_eq_true rfl⟩ (Nat.le_of_ble_eq_true rfl) ⟨Nat.le_of_ble_eq_true rfl, Nat.le_of_ble_eq_true rfl⟩ dX3_hashesPoly_124 rfl ?_
          refine J_i2l hC dX3_hashesPoly_127 ?_
          refine ck_c h (fun ho h => ?_)
          refine bnd_c h (fun w24 hw h => ?_)
          refine J_callV (As := [.long w23.toInt64]) (M' := w24) (rv := none) (st := []) hC (fun l hl => cX3_hashes_ok w19 x0 w23.toInt64 _ hw l hl) vm_X3_hashes k_X3_161 ho ⟨rfl, rfl⟩ rfl ⟨Nat.le_of_ble_eq_true rfl, Nat.le_of_ble_eq_true rfl⟩ (Nat.zero_le _) ⟨Nat.le_of_ble_eq_true rfl, Nat.le_of_ble_eq_true rfl⟩ dX3_hashesPoly_128 rfl ?_
          refine J_inc (j := 3) (k := 1) (lv' := [(2, .int (x2 + 1)), (3, .int w18.2), (0, rf x0), (1, .int x1)]) hC dX3_hashesPoly_131 (by decide) rfl (by decide) rfl ?_
          refine J_goto (tgt := 51) hC dX3_hashesPoly_134 (by decide) ?_
          refine J_sub [2, 3, 0] rfl ?_
          exact ih w24 (x2 + 1) h
        · have h := ite_t c20 h
          refine J_ldc2 (v := (-9)) hC k_X3_165 dX3_hashesPoly_114 ?_
          refine J_goto (tgt := 128) hC dX3_hashesPoly_117 (by decide) ?_
          refine ck_c h (fun ho h => ?_)
          refine bnd_c h (fun w21 hw h => ?_)
          refine J_callV (As := [.long (-9)]) (M' := w21) (rv := none) (st := []) hC (fun l hl => cX3_hashes_ok w19 x0 (-9) _ hw l hl) vm_X3_hashes k_X3_161 ho ⟨rfl, rfl⟩ rfl ⟨Nat.le_of_ble_eq_true rfl, Nat.le_of_ble_eq_true rfl⟩ (Nat.zero_le _) ⟨Nat.le_of_ble_eq_true rfl, Nat.le_of_ble_eq_true rfl⟩ dX3_hashesPoly_128 rfl ?_
          refine J_inc (j := 3) (k := 1) (lv' := [(2, .int (x2 + 1)), (3, .int w18.2), (0, rf x0), (1, .int x1)]) hC dX3_hashesPoly_131 (by decide) rfl (by decide) rfl ?_
          refine J_goto (tgt := 51) hC dX3_hashesPoly_134 (by decide) ?_
          refine J_sub [2, 3, 0] rfl ?_
          exact ih w21 (x2 + 1) h
      refine J_if_eq (tgt := 70) hC dX3_hashesPoly_63 (by decide) (fun c26 => ?_) (fun c26 => ?_)
      · refine J_lconst (v := 0) hC dX3_hashesPoly_70 (by decide) ?_
        refine J_sub [0, 1, 2] rfl ?_
        exact hj _ (if_pos c26).symm
      · refine J_lconst (v := 1) hC dX3_hashesPoly_66 (by decide) ?_
        refine J_goto (tgt := 71) hC dX3_hashesPoly_67 (by decide) ?_
        refine J_sub [0, 1, 2] rfl ?_
        exact hj _ (if_neg c26).symm
set_option maxHeartbeats 4000000 in
set_option maxRecDepth 100000 in
theorem cX3_hashesPoly_ok (M : Mem) (a0 : Option Nat) (a1 : Int32) (r0 : Mem) (h : fX3_hashesPoly M a0 a1 = some r0) : ∀ l : Launch, l.stackTraces = false → Con false l yX3_hashesPoly cX3_hashesPoly 4 none rm_X3_hashesPoly [rf a0, .int a1] M (r0, Sum.inr none) := by
  intro l hst
  refine Con.enter hst (own := RX3) (by decide +kernel) rfl (by exact Nat.le_of_ble_eq_true rfl) (lv0 := [(0, rf a0), (1, .int a1)]) (rfl) (fun C hC hin => ?_)
  unfold fX3_hashesPoly at h
  refine J_iconst (v := 0) hC dX3_hashesPoly_0 (by decide) ?_
  refine J_istore_n (i := 2) (lv' := [(2, .int 0), (0, rf a0), (1, .int a1)]) rfl hC dX3_hashesPoly_1 (by decide) rfl ?_
  refine J_sub [1, 2, 0] rfl ?_
  refine tX3_hashesPoly_2 a0 a1 hC _ (fun M4 x5 h => ?_) FU M 0 h
  · refine J_iconst (v := 0) hC dX3_hashesPoly_24 (by decide) ?_
    refine J_istore_n (i := 2) (lv' := [(2, .int 0), (0, rf a0), (1, .int a1)]) rfl hC dX3_hashesPoly_25 (by decide) rfl ?_
    refine J_sub [1, 2, 0] rfl ?_
    refine tX3_hashesPoly_26 a0 a1 hC _ (fun M9 x10 h => ?_) FU M4 0 h
    · refine J_iconst (v := (-1)) hC dX3_hashesPoly_49 (by decide) ?_
      refine J_istore_n (i := 2) (lv' := [(2, .int (-1)), (0, rf a0), (1, .int a1)]) rfl hC dX3_hashesPoly_50 (by decide) rfl ?_
      refine J_sub [1, 2, 0] rfl ?_
      refine tX3_hashesPoly_51 a0 a1 hC _ (fun M27 x28 h => ?_) FU M9 (-1) h
      · refine J_aload_n (j := 0) hC dX3_hashesPoly_137 rfl ?_
        refine J_aload_n (j := 0) hC dX3_hashesPoly_138 rfl ?_
        refine J_iload_n (j := 1) hC dX3_hashesPoly_139 rfl ?_
        refine ck_c h (fun ho h => ?_)
        refine bnd_c h (fun w29 hw h => ?_)
        refine J_callV (As := [.int a1]) (M' := w29.1) (rv := some (Value.double w29.2)) (st := [rf a0]) hC (fun l hl => cX3_share_ok M27 a0 a1 _ hw l hl) vm_X3_share k_X3_151 ho ⟨rfl, rfl⟩ rfl ⟨Nat.le_of_ble_eq_true rfl, Nat.le_of_ble_eq_true rfl⟩ (Nat.le_of_ble_eq_true rfl) ⟨Nat.le_of_ble_eq_true rfl, Nat.le_of_ble_eq_true rfl⟩ dX3_hashesPoly_140 rfl ?_
        refine bnd_c h (fun w30 hw h => ?_)
        refine J_callS (As := [.double w29.2]) (M' := w29.1) (rv := some (Value.long w30)) (st := [rf a0]) hC (fun l hl => cJxe99ae_doubleToLongBits_ccdee_ok w29.1 w29.2 _ hw l hl) sm_Jxe99ae_doubleToLongBits_ccdee k_X3_167 rfl ⟨Nat.le_of_ble_eq_true rfl, Nat.le_of_ble_eq_true rfl⟩ (Nat.le_of_ble_eq_true rfl) ⟨Nat.le_of_ble_eq_true rfl, Nat.le_of_ble_eq_true rfl⟩ dX3_hashesPoly_143 rfl ?_
        refine ck_c h (fun ho h => ?_)
        refine bnd_c h (fun w31 hw h => ?_)
        refine J_callV (As := [.long w30]) (M' := w31) (rv := none) (st := []) hC (fun l hl => cX3_hashes_ok w29.1 a0 w30 _ hw l hl) vm_X3_hashes k_X3_161 ho ⟨rfl, rfl⟩ rfl ⟨Nat.le_of_ble_eq_true rfl, Nat.le_of_ble_eq_true rfl⟩ (Nat.zero_le _) ⟨Nat.le_of_ble_eq_true rfl, Nat.le_of_ble_eq_true rfl⟩ dX3_hashesPoly_146 rfl ?_
        exact J_vret hC dX3_hashesPoly_149 (by have h9 := Option.some.inj h; subst h9; rfl) (Nat.le_of_ble_eq_true rfl) (Nat.le_of_ble_eq_true rfl)
abbrev rm_X3_digest : Room := { frames := 5, cells := 0, slots := 0, locals := 115 }

set_option maxHeartbeats 4000000 in
set_option maxRecDepth 100000 in
theorem tX3_digest_14 {C : JC} {r0 : Mem × Int64} (x0 : Option Nat) (hC : Ok C false cX3_digest 2 rm_X3_digest (some .long) RX3 (r0.1, Sum.inr (some (Value.long r0.2))))  (k36 : Mem → Int32 → Option (Mem × Int64)) (hk36 : ∀ (M : Mem) (x1 : Int32), k36 M x1 = some r0 → J C 0 0 M 36 [(0, rf x0), (1, .int x1)] []) : ∀ (n : Nat) (M : Mem) (x1 : Int32), fX3_digest_14 x0 k36 n M x1 = some r0 → J C 0 0 M 14 [(0, rf x0), (1, .int x1)] [] := by
  intro n
  induction n with
  | zero => intro M x1 h; have h : none = some r0 := h; cases h
  | succ n ih =>
    intro M x1 h
    rw [fX3_digest_14] at h
    refine J_iload_n (j := 1) hC dX3_digest_14 rfl ?_
    refine J_bipush (v := 8) hC dX3_digest_15 (by decide) ?_
    refine J_icmp_ge (tgt := 36) hC dX3_digest_17 (by decide) (fun c3 => ?_) (fun c3 => ?_)
    · have h := ite_t c3 h
      refine J_sub [0, 1] rfl ?_
      exact hk36 M x1 h
    · have h := ite_f c3 h
      refine J_aload_n (j := 0) hC dX3_digest_20 rfl ?_
      refine J_aload_n (j := 0) hC dX3_digest_21 rfl ?_
      refine J_iload_n (j := 1) hC dX3_digest_22 rfl ?_
      refine ck_c h (fun ho h => ?_)
      refine bnd_c h (fun w4 hw h => ?_)
      refine J_callV (As := [.int x1]) (M' := M) (rv := some (Value.int w4)) (st := [rf x0]) hC (fun l hl => cX3_tellsCount_ok M x0 x1 _ hw l hl) vm_X3_tellsCount k_X3_148 ho ⟨rfl, rfl⟩ rfl ⟨Nat.le_of_ble_eq_true rfl, Nat.le_of_ble_eq_true rfl⟩ (Nat.le_of_ble_eq_true rfl) ⟨Nat.le_of_ble_eq_true rfl, Nat.le_of_ble_eq_true rfl⟩ dX3_digest_23 rfl ?_
      refine J_i2l hC dX3_digest_26 ?_
      refine ck_c h (fun ho h => ?_)
      refine bnd_c h (fun w5 hw h => ?_)
      refine J_callV (As := [.long w4.toInt64]) (M' := w5) (rv := none) (st := []) hC (fun l hl => cX3_hashes_ok M x0 w4.toInt64 _ hw l hl) vm_X3_hashes k_X3_161 ho ⟨rfl, rfl⟩ rfl ⟨Nat.le_of_ble_eq_true rfl, Nat.le_of_ble_eq_true rfl⟩ (Nat.zero_le _) ⟨Nat.le_of_ble_eq_true rfl, Nat.le_of_ble_eq_true rfl⟩ dX3_digest_27 rfl ?_
      refine J_inc (j := 1) (k := 1) (lv' := [(1, .int (x1 + 1)), (0, rf x0)]) hC dX3_digest_30 (by decide) rfl (by decide) rfl ?_
      refine J_goto (tgt := 14) hC dX3_digest_33 (by decide) ?_
      refine J_sub [1, 0] rfl ?_
      exact ih w5 (x1 + 1) h
set_option maxHeartbeats 4000000 in
set_option maxRecDepth 100000 in
theorem tX3_digest_38 {C : JC} {r0 : Mem × Int64} (x0 : Option Nat) (hC : Ok C false cX3_digest 2 rm_X3_digest (some .long) RX3 (r0.1, Sum.inr (some (Value.long r0.2))))  (k54 : Mem → Int32 → Option (Mem × Int64)) (hk54 : ∀ (M : Mem) (x1 : Int32), k54 M x1 = some r0 → J C 0 0 M 54 [(0, rf x0), (1, .int x1)] []) : ∀ (n : Nat) (M : Mem) (x1 : Int32), fX3_digest_38 x0 k54 n M x1 = some r0 → J C 0 0 M 38 [(0, rf x0), (1, .int x1)] [] := by
  intro n
  induction n with
  | zero => intro M x1 h; have h : none = some r0 := h; cases h
  | succ n ih =>
    intro M x1 h
    rw [fX3_digest_38] at h
    refine J_iload_n (j := 1) hC dX3_digest_38 rfl ?_
    refine J_iconst (v := 5) hC dX3_digest_39 (by decide) ?_
    refine J_icmp_ge (tgt := 54) hC dX3_digest_40 (by decide) (fun c8 => ?_) (fun c8 => ?_)
    · have h := ite_t c8 h
      refine J_sub [0, 1] rfl ?_
      exact hk54 M x1 h
    · have h := ite_f c8 h
      refine J_aload_n (j := 0) hC dX3_digest_43 rfl ?_
      refine J_iload_n (j := 1) hC dX3_digest_44 rfl ?_
      refine ck_c h (fun ho h => ?_)
      refine bnd_c h (fun w9 hw h => ?_)
      refine J_callV (As := [.int x1]) (M' := w9) (rv := none) (st := []) hC (fun l hl => cX3_hashesPoly_ok M x0 x1 _ hw l hl) vm_X3_hashesPoly k_X3_175 ho ⟨rfl, rfl⟩ rfl ⟨Nat.le_of_ble_eq_true rfl, Nat.le_of_ble_eq_true rfl⟩ (Nat.zero_le _) ⟨Nat.le_of_ble_eq_true rfl, Nat.le_of_ble_eq_true rfl⟩ dX3_digest_45 rfl ?_
      refine J_inc (j := 1) (k := 1) (lv' := [(1, .int (x1 + 1)), (0, rf x0)]) hC dX3_digest_48 (by decide) rfl (by decide) rfl ?_
      refine J_goto (tgt := 38) hC dX3_digest_51 (by decide) ?_
      refine J_sub [1, 0] rfl ?_
      exact ih w9 (x1 + 1) h
set_option maxHeartbeats 4000000 in
set_option maxRecDepth 100000 in
theorem tX3_digest_56 {C : JC} {r0 : Mem × Int64} (x0 : Option Nat) (hC : Ok C false cX3_digest 2 rm_X3_digest (some .long) RX3 (r0.1, Sum.inr (some (Value.long r0.2))))  (k100 : Mem → Int32 → Option (Mem × Int64)) (hk100 : ∀ (M : Mem) (x1 : Int32), k100 M x1 = some r0 → J C 0 0 M 100 [(0, rf x0), (1, .int x1)] []) : ∀ (n : Nat) (M : Mem) (x1 : Int32), fX3_digest_56 x0 k100 n M x1 = some r0 → J C 0 0 M 56 [(0, rf x0), (1, .int x1)] [] := by
  intro n
  induction n with
  | zero => intro M x1 h; have h : none = some r0 := h; cases h
  | succ n ih =>
    intro M x1 h
    rw [fX3_digest_56] at h
    refine J_iload_n (j := 1) hC dX3_digest_56 rfl ?_
    refine J_bipush (v := 25) hC dX3_digest_57 (by decide) ?_
    refine J_icmp_ge (tgt := 100) hC dX3_digest_59 (by decide) (fun c12 => ?_) (fun c12 => ?_)
    · have h := ite_t c12 h
      refine J_sub [0, 1] rfl ?_
      exact hk100 M x1 h
    · have h := ite_f c12 h
      refine J_aload_n (j := 0) hC dX3_digest_62 rfl ?_
      refine J_aload_n (j := 0) hC dX3_digest_63 rfl ?_
      refine J_iload_n (j := 1) hC dX3_digest_64 rfl ?_
      refine J_iconst (v := 5) hC dX3_digest_65 (by decide) ?_
      refine J_idiv hC dX3_digest_66 (by decide) ?_
      refine J_iload_n (j := 1) hC dX3_digest_67 rfl ?_
      refine J_iconst (v := 5) hC dX3_digest_68 (by decide) ?_
      refine J_irem hC dX3_digest_69 (by decide) ?_
      refine J_iconst (v := 0) hC dX3_digest_70 (by decide) ?_
      refine ck_c h (fun ho h => ?_)
      refine bnd_c h (fun w13 hw h => ?_)
      refine J_callV (As := [.int (x1 / 5), .int (x1 - x1 / 5 * 5), .int 0]) (M' := M) (rv := some (Value.int w13)) (st := [rf x0]) hC (fun l hl => cX3_rows_ok M x0 (x1 / 5) (x1 - x1 / 5 * 5) 0 _ hw l hl) vm_X3_rows k_X3_134 ho ⟨rfl, rfl⟩ rfl ⟨Nat.le_of_ble_eq_true rfl, Nat.le_of_ble_eq_true rfl⟩ (Nat.le_of_ble_eq_true rfl) ⟨Nat.le_of_ble_eq_true rfl, Nat.le_of_ble_eq_true rfl⟩ dX3_digest_71 rfl ?_
      refine J_i2l hC dX3_digest_74 ?_
      refine ck_c h (fun ho h => ?_)
      refine bnd_c h (fun w14 hw h => ?_)
      refine J_callV (As := [.long w13.toInt64]) (M' := w14) (rv := none) (st := []) hC (fun l hl => cX3_hashes_ok M x0 w13.toInt64 _ hw l hl) vm_X3_hashes k_X3_161 ho ⟨rfl, rfl⟩ rfl ⟨Nat.le_of_ble_eq_true rfl, Nat.le_of_ble_eq_true rfl⟩ (Nat.zero_le _) ⟨Nat.le_of_ble_eq_true rfl, Nat.le_of_ble_eq_true rfl⟩ dX3_digest_75 rfl ?_
      refine J_aload_n (j := 0) hC dX3_digest_78 rfl ?_
      refine J_aload_n (j := 0) hC dX3_digest_79 rfl ?_
      refine J_iload_n (j := 1) hC dX3_digest_80 rfl ?_
      refine J_iconst (v := 5) hC dX3_digest_81 (by decide) ?_
      refine J_idiv hC dX3_digest_82 (by decide) ?_
      refine J_iload_n (j := 1) hC dX3_digest_83 rfl ?_
      refine J_iconst (v := 5) hC dX3_digest_84 (by decide) ?_
      refine J_irem hC dX3_digest_85 (by decide) ?_
      refine J_iconst (v := 1) hC dX3_digest_86 (by decide) ?_
      refine ck_c h (fun ho h => ?_)
      refine bnd_c h (fun w15 hw h => ?_)
      refine J_callV (As := [.int (x1 / 5), .int (x1 - x1 / 5 * 5), .int 1]) (M' := w14) (rv := some (Value.int w15)) (st := [rf x0]) hC (fun l hl => cX3_rows_ok w14 x0 (x1 / 5) (x1 - x1 / 5 * 5) 1 _ hw l hl) vm_X3_rows k_X3_134 ho ⟨rfl, rfl⟩ rfl ⟨Nat.le_of_ble_eq_true rfl, Nat.le_of_ble_eq_true rfl⟩ (Nat.le_of_ble_eq_true rfl) ⟨Nat.le_of_ble_eq_true rfl, Nat.le_of_ble_eq_true rfl⟩ dX3_digest_87 rfl ?_
      refine J_i2l hC dX3_digest_90 ?_
      refine ck_c h (fun ho h => ?_)
      refine bnd_c h (fun w16 hw h => ?_)
      refine J_callV (As := [.long w15.toInt64]) (M' := w16) (rv := none) (st := []) hC (fun l hl => cX3_hashes_ok w14 x0 w15.toInt64 _ hw l hl) vm_X3_hashes k_X3_161 ho ⟨rfl, rfl⟩ rfl ⟨Nat.le_of_ble_eq_true rfl, Nat.le_of_ble_eq_true rfl⟩ (Nat.zero_le _) ⟨Nat.le_of_ble_eq_true rfl, Nat.le_of_ble_eq_true rfl⟩ dX3_digest_91 rfl ?_
      refine J_inc (j := 1) (k := 1) (lv' := [(1, .int (x1 + 1)), (0, rf x0)]) hC dX3_digest_94 (by decide) rfl (by decide) rfl ?_
      refine J_goto (tgt := 56) hC dX3_digest_97 (by decide) ?_
      refine J_sub [1, 0] rfl ?_
      exact ih w16 (x1 + 1) h
set_option maxHeartbeats 4000000 in
set_option maxRecDepth 100000 in
theorem tX3_digest_106 {C : JC} {r0 : Mem × Int64} (x0 : Option Nat) (hC : Ok C false cX3_digest 2 rm_X3_digest (some .long) RX3 (r0.1, Sum.inr (some (Value.long r0.2))))  (k128 : Mem → Int32 → Option (Mem × Int64)) (hk128 : ∀ (M : Mem) (x1 : Int32), k128 M x1 = some r0 → J C 0 0 M 128 [(0, rf x0), (1, .int x1)] []) : ∀ (n : Nat) (M : Mem) (x1 : Int32), fX3_digest_106 x0 k128 n M x1 = some r0 → J C 0 0 M 106 [(0, rf x0), (1, .int x1)] [] := by
  intro n
  induction n with
  | zero => intro M x1 h; have h : none = some r0 := h; cases h
  | succ n ih =>
    intro M x1 h
    rw [fX3_digest_106] at h
    refine J_iload_n (j := 1) hC dX3_digest_106 rfl ?_
    refine J_bipush (v := 9) hC dX3_digest_107 (by decide) ?_
    refine J_icmp_ge (tgt := 128) hC dX3_digest_109 (by decide) (fun c20 => ?_) (fun c20 => ?_)
    · have h := ite_t c20 h
      refine J_sub [0, 1] rfl ?_
      exact hk128 M x1 h
    · have h := ite_f c20 h
      refine J_aload_n (j := 0) hC dX3_digest_112 rfl ?_
      refine J_aload_n (j := 0) hC dX3_digest_113 rfl ?_
      refine J_g3_11 hC k_X3_32 dX3_digest_114 h (fun v21 _ h => ?_)
      refine J_iload_n (j := 1) hC dX3_digest_117 rfl ?_
      refine J_lald hC dX3_digest_118 h (fun v22 _ h => ?_)
      refine ck_c h (fun ho h => ?_)
      refine bnd_c h (fun w23 hw h => ?_)
      refine J_callV (As := [.long v22]) (M' := w23) (rv := none) (st := []) hC (fun l hl => cX3_hashes_ok M x0 v22 _ hw l hl) vm_X3_hashes k_X3_161 ho ⟨rfl, rfl⟩ rfl ⟨Nat.le_of_ble_eq_true rfl, Nat.le_of_ble_eq_true rfl⟩ (Nat.zero_le _) ⟨Nat.le_of_ble_eq_true rfl, Nat.le_of_ble_eq_true rfl⟩ dX3_digest_119 rfl ?_
      refine J_inc (j := 1) (k := 1) (lv' := [(1, .int (x1 + 1)), (0, rf x0)]) hC dX3_digest_122 (by decide) rfl (by decide) rfl ?_
      refine J_goto (tgt := 106) hC dX3_digest_125 (by decide) ?_
      refine J_sub [1, 0] rfl ?_
      exact ih w23 (x1 + 1) h
set_option maxHeartbeats 4000000 in
set_option maxRecDepth 100000 in
theorem tX3_digest_130 {C : JC} {r0 : Mem × Int64} (x0 : Option Nat) (hC : Ok C false cX3_digest 2 rm_X3_digest (some .long) RX3 (r0.1, Sum.inr (some (Value.long r0.2))))  (k161 : Mem → Int32 → Option (Mem × Int64)) (hk161 : ∀ (M : Mem) (x1 : Int32), k161 M x1 = some r0 → J C 0 0 M 161 [(0, rf x0), (1, .int x1)] []) : ∀ (n : Nat) (M : Mem) (x1 : Int32), fX3_digest_130 x0 k161 n M x1 = some r0 → J C 0 0 M 130 [(0, rf x0), (1, .int x1)] [] := by
  intro n
  induction n with
  | zero => intro M x1 h; have h : none = some r0 := h; cases h
  | succ n ih =>
    intro M x1 h
    rw [fX3_digest_130] at h
    refine J_iload_n (j := 1) hC dX3_digest_130 rfl ?_
    refine J_aload_n (j := 0) hC dX3_digest_131 rfl ?_
    refine J_g3_1 hC k_X3_7 dX3_digest_132 h (fun v26 _ h => ?_)
    refine J_bipush (v := 45) hC dX3_digest_135 (by decide) ?_
    refine J_iald hC dX3_digest_137 h (fun v27 _ h => ?_)
    refine J_icmp_ge (tgt := 161) hC dX3_digest_138 (by decide) (fun c28 => ?_) (fun c28 => ?_)
    · have h := ite_t c28 h
      refine J_sub [0, 1] rfl ?_
      exact hk161 M x1 h
    · have h := ite_f c28 h
      refine J_aload_n (j := 0) hC dX3_digest_141 rfl ?_
      refine J_aload_n (j := 0) hC dX3_digest_142 rfl ?_
      refine J_g3_1 hC k_X3_7 dX3_digest_143 h (fun v29 _ h => ?_)
      refine J_bipush (v := 46) hC dX3_digest_146 (by decide) ?_
      refine J_iload_n (j := 1) hC dX3_digest_148 rfl ?_
      refine J_iadd hC dX3_digest_149 ?_
      refine J_iald hC dX3_digest_150 h (fun v30 _ h => ?_)
      refine J_i2l hC dX3_digest_151 ?_
      refine ck_c h (fun ho h => ?_)
      refine bnd_c h (fun w31 hw h => ?_)
      refine J_callV (As := [.long v30.toInt64]) (M' := w31) (rv := none) (st := []) hC (fun l hl => cX3_hashes_ok M x0 v30.toInt64 _ hw l hl) vm_X3_hashes k_X3_161 ho ⟨rfl, rfl⟩ rfl ⟨Nat.le_of_ble_eq_true rfl, Nat.le_of_ble_eq_true rfl⟩ (Nat.zero_le _) ⟨Nat.le_of_ble_eq_true rfl, Nat.le_of_ble_eq_true rfl⟩ dX3_digest_152 rfl ?_
      refine J_inc (j := 1) (k := 1) (lv' := [(1, .int (x1 + 1)), (0, rf x0)]) hC dX3_digest_155 (by decide) rfl (by decide) rfl ?_
      refine J_goto (tgt := 130) hC dX3_digest_158 (by decide) ?_
      refine J_sub [1, 0] rfl ?_
      exact ih w31 (x1 + 1) h
