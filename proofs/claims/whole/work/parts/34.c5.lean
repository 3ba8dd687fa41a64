set_option maxHeartbeats 4000000 in
set_option maxRecDepth 100000 in
theorem tX3_divides_14 {C : JC} {r0 : Mem × Int32} (x0 : Option Nat) (x1 : Int32) (x2 : Int32) (x3 : Int32) (hC : Ok C false cX3_divides 7 rm_X3_divides (some .int) RX3 (r0.1, Sum.inr (some (Value.int r0.2))))  (k32 : Mem → Int32 → Int32 → Option (Mem × Int32)) (hk32 : ∀ (M : Mem) (x4 : Int32) (x5 : Int32), k32 M x4 x5 = some r0 → J C 0 0 M 32 [(0, rf x0), (1, .int x1), (2, .int x2), (3, .int x3), (4, .int x4), (5, .int x5)] []) : ∀ (n : Nat) (M : Mem) (x4 : Int32) (x5 : Int32), fX3_divides_14 x0 x1 x2 x3 k32 n M x4 x5 = some r0 → J C 0 0 M 14 [(0, rf x0), (1, .int x1), (2, .int x2), (3, .int x3), (4, .int x4), (5, .int x5)] [] := by
  intro n
  induction n with
  | zero => intro M x4 x5 h; have h : none = some r0 := h; cases h
  | succ n ih =>
    intro M x4 x5 h
    rw [fX3_divides_14] at h
    refine J_iload (j := 5) hC dX3_divides_14 rfl ?_
    refine J_iload_n (j := 3) hC dX3_divides_16 rfl ?_
    refine J_icmp_gt (tgt := 32) hC dX3_divides_17 (by decide) (fun c2 => ?_) (fun c2 => ?_)
    · have h := ite_t c2 h
      refine J_sub [0, 1, 2, 3, 4, 5] rfl ?_
      exact hk32 M x4 x5 h
    · have h := ite_f c2 h
      refine J_iload (j := 4) hC dX3_divides_20 rfl ?_
      refine J_iconst (v := 3) hC dX3_divides_22 (by decide) ?_
      refine J_imul hC dX3_divides_23 ?_
      refine J_istore (lv' := [(4, .int (x4 * 3)), (0, rf x0), (1, .int x1), (2, .int x2), (3, .int x3), (5, .int x5)]) hC dX3_divides_24 (by decide) rfl ?_
      refine J_inc (j := 5) (k := 1) (lv' := [(5, .int (x5 + 1)), (4, .int (x4 * 3)), (0, rf x0), (1, .int x1), (2, .int x2), (3, .int x3)]) hC dX3_divides_26 (by decide) rfl (by decide) rfl ?_
      refine J_goto (tgt := 14) hC dX3_divides_29 (by decide) ?_
      refine J_sub [2, 3, 4, 5, 1, 0] rfl ?_
      exact ih M (x4 * 3) (x5 + 1) h
set_option maxHeartbeats 4000000 in
set_option maxRecDepth 100000 in
theorem tX3_divides_44 {C : JC} {r0 : Mem × Int32} (x0 : Option Nat) (x1 : Int32) (x2 : Int32) (x3 : Int32) (x4 : Int32) (hC : Ok C false cX3_divides 7 rm_X3_divides (some .int) RX3 (r0.1, Sum.inr (some (Value.int r0.2))))  (k87 : Mem → Int32 → Int32 → Option (Mem × Int32)) (hk87 : ∀ (M : Mem) (x5 : Int32) (x6 : Int32), k87 M x5 x6 = some r0 → J C 0 0 M 87 [(0, rf x0), (1, .int x1), (2, .int x2), (3, .int x3), (4, .int x4), (5, .int x5), (6, .int x6)] []) : ∀ (n : Nat) (M : Mem) (x5 : Int32) (x6 : Int32), fX3_divides_44 x0 x1 x2 x3 x4 k87 n M x5 x6 = some r0 → J C 0 0 M 44 [(0, rf x0), (1, .int x1), (2, .int x2), (3, .int x3), (4, .int x4), (5, .int x5), (6, .int x6)] [] := by
  intro n
  induction n with
  | zero => intro M x5 x6 h; have h : none = some r0 := h; cases h
  | succ n ih =>
    intro M x5 x6 h
    rw [fX3_divides_44] at h
    refine J_iload (j := 6) hC dX3_divides_44 rfl ?_
    refine J_iload (j := 4) hC dX3_divides_46 rfl ?_
    refine J_icmp_ge (tgt := 87) hC dX3_divides_48 (by decide) (fun c7 => ?_) (fun c7 => ?_)
    · have h := ite_t c7 h
      refine J_sub [0, 1, 2, 3, 4, 5, 6] rfl ?_
      exact hk87 M x5 x6 h
    · have h := ite_f c7 h
      refine J_iload_n (j := 3) hC dX3_divides_51 rfl ?_
      refine J_if_lt (tgt := 87) hC dX3_divides_52 (by decide) (fun c8 => ?_) (fun c8 => ?_)
      · have h := ite_t c8 h
        refine J_sub [0, 1, 2, 3, 4, 5, 6] rfl ?_
        exact hk87 M x5 x6 h
      · have h := ite_f c8 h
        refine J_aload_n (j := 0) hC dX3_divides_55 rfl ?_
        refine J_iload (j := 6) hC dX3_divides_56 rfl ?_
        refine J_iload_n (j := 3) hC dX3_divides_58 rfl ?_
        refine ck_c h (fun ho h => ?_)
        refine bnd_c h (fun w9 hw h => ?_)
        refine J_callV (As := [.int x6, .int x3]) (M' := w9) (rv := none) (st := []) hC (fun l hl => cX3_laysRow_ok M x0 x6 x3 _ hw l hl) vm_X3_laysRow k_X3_65 ho ⟨rfl, rfl⟩ rfl ⟨Nat.le_of_ble_eq_true rfl, Nat.le_of_ble_eq_true rfl⟩ (Nat.zero_le _) ⟨Nat.le_of_ble_eq_true rfl, Nat.le_of_ble_eq_true rfl⟩ dX3_divides_59 rfl ?_
        refine J_aload_n (j := 0) hC dX3_divides_62 rfl ?_
        refine J_iload_n (j := 1) hC dX3_divides_63 rfl ?_
        refine J_iload_n (j := 2) hC dX3_divides_64 rfl ?_
        refine J_iload_n (j := 3) hC dX3_divides_65 rfl ?_
        refine ck_c h (fun ho h => ?_)
        refine bnd_c h (fun w10 hw h => ?_)
        refine J_callV (As := [.int x1, .int x2, .int x3]) (M' := w9) (rv := some (Value.int w10)) (st := []) hC (fun l hl => cX3_isQuotient_ok w9 x0 x1 x2 x3 _ hw l hl) vm_X3_isQuotient k_X3_69 ho ⟨rfl, rfl⟩ rfl ⟨Nat.le_of_ble_eq_true rfl, Nat.le_of_ble_eq_true rfl⟩ (Nat.zero_le _) ⟨Nat.le_of_ble_eq_true rfl, Nat.le_of_ble_eq_true rfl⟩ dX3_divides_66 rfl ?_
        refine J_if_eq (tgt := 81) hC dX3_divides_69 (by decide) (fun c11 => ?_) (fun c11 => ?_)
        · have h := ite_t c11 h
          refine J_inc (j := 6) (k := 1) (lv' := [(6, .int (x6 + 1)), (0, rf x0), (1, .int x1), (2, .int x2), (3, .int x3), (4, .int x4), (5, .int x5)]) hC dX3_divides_81 (by decide) rfl (by decide) rfl ?_
          refine J_goto (tgt := 44) hC dX3_divides_84 (by decide) ?_
          refine J_sub [1, 2, 3, 4, 5, 6, 0] rfl ?_
          exact ih w9 x5 (x6 + 1) h
        · have h := ite_f c11 h
          refine J_inc (j := 5) (k := 1) (lv' := [(5, .int (x5 + 1)), (0, rf x0), (1, .int x1), (2, .int x2), (3, .int x3), (4, .int x4), (6, .int x6)]) hC dX3_divides_72 (by decide) rfl (by decide) rfl ?_
          refine J_aload_n (j := 1) hC dX3_divides_75 rfl ?_
          refine J_iload_n (j := 4) hC dX3_divides_76 rfl ?_
          refine J_iload_n (j := 3) hC dX3_divides_77 rfl ?_
          refine ck_c h (fun ho h => ?_)
          refine bnd_c h (fun w12 hw h => ?_)
          refine J_callV (As := [.int x3, .int x2]) (M' := w12) (rv := none) (st := []) hC (fun l hl => cX3_notes_ok w9 x0 x3 x2 _ hw l hl) vm_X3_notes k_X3_72 ho ⟨rfl, rfl⟩ rfl ⟨Nat.le_of_ble_eq_true rfl, Nat.le_of_ble_eq_true rfl⟩ (Nat.zero_le _) ⟨Nat.le_of_ble_eq_true rfl, Nat.le_of_ble_eq_true rfl⟩ dX3_divides_78 rfl ?_
          refine J_inc (j := 6) (k := 1) (lv' := [(6, .int (x6 + 1)), (5, .int (x5 + 1)), (0, rf x0), (1, .int x1), (2, .int x2), (3, .int x3), (4, .int x4)]) hC dX3_divides_81 (by decide) rfl (by decide) rfl ?_
          refine J_goto (tgt := 44) hC dX3_divides_84 (by decide) ?_
          refine J_sub [2, 3, 4, 5, 6, 1, 0] rfl ?_
          exact ih w12 (x5 + 1) (x6 + 1) h
set_option maxHeartbeats 4000000 in
set_option maxRecDepth 100000 in
theorem cX3_divides_ok (M : Mem) (a0 : Option Nat) (a1 : Int32) (a2 : Int32) (r0 : Mem × Int32) (h : fX3_divides M a0 a1 a2 = some r0) : ∀ l : Launch, l.stackTraces = false → Con false l yX3_divides cX3_divides 7 (some .int) rm_X3_divides [rf a0, .int a1, .int a2] M (r0.1, Sum.inr (some (Value.int r0.2))) := by
  intro l hst
  refine Con.enter hst (own := RX3) (by decide +kernel) rfl (by exact Nat.le_of_ble_eq_true rfl) (lv0 := [(0, rf a0), (1, .int a1), (2, .int a2)]) (rfl) (fun C hC hin => ?_)
  unfold fX3_divides at h
  refine J_aload_n (j := 0) hC dX3_divides_0 rfl ?_
  refine J_iload_n (j := 1) hC dX3_divides_1 rfl ?_
  refine ck_c h (fun ho h => ?_)
  refine bnd_c h (fun w1 hw h => ?_)
  refine J_callV (As := [.int a1]) (M' := M) (rv := some (Value.int w1)) (st := []) hC (fun l hl => cX3_degree_ok M a0 a1 _ hw l hl) vm_X3_degree k_X3_51 ho ⟨rfl, rfl⟩ rfl ⟨Nat.le_of_ble_eq_true rfl, Nat.le_of_ble_eq_true rfl⟩ (Nat.zero_le _) ⟨Nat.le_of_ble_eq_true rfl, Nat.le_of_ble_eq_true rfl⟩ dX3_divides_2 rfl ?_
  refine J_iconst (v := 1) hC dX3_divides_5 (by decide) ?_
  refine J_isub hC dX3_divides_6 ?_
  refine J_istore_n (i := 3) (lv' := [(3, .int (w1 - 1)), (0, rf a0), (1, .int a1), (2, .int a2)]) rfl hC dX3_divides_7 (by decide) rfl ?_
  refine J_iconst (v := 1) hC dX3_divides_8 (by decide) ?_
  refine J_istore (lv' := [(4, .int 1), (3, .int (w1 - 1)), (0, rf a0), (1, .int a1), (2, .int a2)]) hC dX3_divides_9 (by decide) rfl ?_
  refine J_iconst (v := 0) hC dX3_divides_11 (by decide) ?_
  refine J_istore (lv' := [(5, .int 0), (4, .int 1), (3, .int (w1 - 1)), (0, rf a0), (1, .int a1), (2, .int a2)]) hC dX3_divides_12 (by decide) rfl ?_
  refine J_sub [3, 4, 5, 2, 1, 0] rfl ?_
  refine tX3_divides_14 a0 a1 a2 (w1 - 1) hC _ (fun M3 x4 x5 h => ?_) FU M 1 0 h
  · refine J_iconst (v := 0) hC dX3_divides_32 (by decide) ?_
    refine J_istore (lv' := [(5, .int 0), (0, rf a0), (1, .int a1), (2, .int a2), (3, .int (w1 - 1)), (4, .int x4)]) hC dX3_divides_33 (by decide) rfl ?_
    refine J_aload_n (j := 1) hC dX3_divides_35 rfl ?_
    refine J_bipush (v := (-9)) hC dX3_divides_36 (by decide) ?_
    refine J_p3_10 hC k_X3_62 dX3_divides_38 h (fun M6 _ h => ?_)
    refine J_iconst (v := 0) hC dX3_divides_41 (by decide) ?_
    refine J_istore (lv' := [(6, .int 0), (5, .int 0), (0, rf a0), (1, .int a1), (2, .int a2), (3, .int (w1 - 1)), (4, .int x4)]) hC dX3_divides_42 (by decide) rfl ?_
    refine J_sub [2, 3, 4, 5, 6, 1, 0] rfl ?_
    refine tX3_divides_44 a0 a1 a2 (w1 - 1) x4 hC _ (fun M13 x14 x15 h => ?_) FU M6 0 0 h
    · refine J_iload (j := 5) hC dX3_divides_87 rfl ?_
      exact J_iret hC dX3_divides_89 (by have h9 := Option.some.inj h; subst h9; rfl) (Nat.le_of_ble_eq_true rfl) (Nat.le_of_ble_eq_true rfl)
abbrev rm_X3_form : Room := { frames := 0, cells := 0, slots := 0, locals := 0 }

set_option maxHeartbeats 4000000 in
set_option maxRecDepth 100000 in
theorem tX3_form_5 {C : JC} {r0 : Int32} (M : Mem) (x0 : Option Nat) (hC : Ok C false cX3_form 3 rm_X3_form (some .int) RX3 (M, Sum.inr (some (Value.int r0))))  (k25 : Int32 → Int32 → Option (Int32)) (hk25 : ∀ (x1 : Int32) (x2 : Int32), k25 x1 x2 = some r0 → J C 0 0 M 25 [(0, rf x0), (1, .int x1), (2, .int x2)] []) : ∀ (n : Nat) (x1 : Int32) (x2 : Int32), fX3_form_5 M x0 k25 n x1 x2 = some r0 → J C 0 0 M 5 [(0, rf x0), (1, .int x1), (2, .int x2)] [] := by
  intro n
  induction n with
  | zero => intro x1 x2 h; have h : none = some r0 := h; cases h
  | succ n ih =>
    intro x1 x2 h
    rw [fX3_form_5] at h
    refine J_iload_n (j := 2) hC dX3_form_5 rfl ?_
    refine J_if_lt (tgt := 25) hC dX3_form_6 (by decide) (fun c1 => ?_) (fun c1 => ?_)
    · have h := ite_t c1 h
      refine J_sub [0, 1, 2] rfl ?_
      exact hk25 x1 x2 h
    · have h := ite_f c1 h
      refine J_iconst (v := 3) hC dX3_form_9 (by decide) ?_
      refine J_iload_n (j := 1) hC dX3_form_10 rfl ?_
      refine J_imul hC dX3_form_11 ?_
      refine J_aload_n (j := 0) hC dX3_form_12 rfl ?_
      refine J_iload_n (j := 2) hC dX3_form_13 rfl ?_
      refine J_iald hC dX3_form_14 h (fun v2 _ h => ?_)
      refine J_iadd hC dX3_form_15 ?_
      refine J_iconst (v := 1) hC dX3_form_16 (by decide) ?_
      refine J_iadd hC dX3_form_17 ?_
      refine J_istore_n (i := 1) (lv' := [(1, .int (((3 * x1) + v2) + 1)), (0, rf x0), (2, .int x2)]) rfl hC dX3_form_18 (by decide) rfl ?_
      refine J_inc (j := 2) (k := (-1)) (lv' := [(2, .int (x2 + (-1))), (1, .int (((3 * x1) + v2) + 1)), (0, rf x0)]) hC dX3_form_19 (by decide) rfl (by decide) rfl ?_
      refine J_goto (tgt := 5) hC dX3_form_22 (by decide) ?_
      refine J_sub [2, 1, 0] rfl ?_
      exact ih (((3 * x1) + v2) + 1) (x2 + (-1)) h
set_option maxHeartbeats 4000000 in
set_option maxRecDepth 100000 in
theorem cX3_form_ok (M : Mem) (a0 : Option Nat) (r0 : Int32) (h : fX3_form M a0 = some r0) : ∀ l : Launch, l.stackTraces = false → Con false l yX3_form cX3_form 3 (some .int) rm_X3_form [rf a0] M (M, Sum.inr (some (Value.int r0))) := by
  intro l hst
  refine Con.enter hst (own := RX3) (by decide +kernel) rfl (by exact Nat.le_of_ble_eq_true rfl) (lv0 := [(0, rf a0)]) (rfl) (fun C hC hin => ?_)
  unfold fX3_form at h
  refine J_iconst (v := 0) hC dX3_form_0 (by decide) ?_
  refine J_istore_n (i := 1) (lv' := [(1, .int 0), (0, rf a0)]) rfl hC dX3_form_1 (by decide) rfl ?_
  refine J_bipush (v := 8) hC dX3_form_2 (by decide) ?_
  refine J_istore_n (i := 2) (lv' := [(2, .int 8), (1, .int 0), (0, rf a0)]) rfl hC dX3_form_4 (by decide) rfl ?_
  refine J_sub [2, 1, 0] rfl ?_
  refine tX3_form_5 M a0 hC _ (fun x3 x4 h => ?_) FU 0 8 h
  · refine J_iload_n (j := 1) hC dX3_form_25 rfl ?_
    exact J_iret hC dX3_form_26 (by have h9 := Option.some.inj h; subst h9; rfl) (Nat.le_of_ble_eq_true rfl) (Nat.le_of_ble_eq_true rfl)
abbrev rm_X3_put : Room := { frames := 2, cells := 0, slots := 0, locals := 45 }

set_option maxHeartbeats 4000000 in
set_option maxRecDepth 100000 in
theorem cX3_put_ok (M : Mem) (a0 : Option Nat) (a1 : Int32) (a2 : Int32) (a3 : Int32) (r0 : Mem × Int32) (h : fX3_put M a0 a1 a2 a3 = some r0) : ∀ l : Launch, l.stackTraces = false → Con false l yX3_put cX3_put 6 (some .int) rm_X3_put [rf a0, .int a1, .int a2, .int a3] M (r0.1, Sum.inr (some (Value.int r0.2))) := by
  intro l hst
  refine Con.enter hst (own := RX3) (by decide +kernel) rfl (by exact Nat.le_of_ble_eq_true rfl) (lv0 := [(0, rf a0), (1, .int a1), (2, .int a2), (3, .int a3)]) (rfl) (fun C hC hin => ?_)
  unfold fX3_put at h
  refine J_aload_n (j := 0) hC dX3_put_0 rfl ?_
  refine J_iconst (v := 0) hC dX3_put_1 (by decide) ?_
  refine J_p3_0 hC k_X3_36 dX3_put_2 h (fun M1 _ h => ?_)
  refine J_iload_n (j := 1) hC dX3_put_5 rfl ?_
  refine bnd_c h (fun w2 hw h => ?_)
  refine J_callS (As := [.int a1]) (M' := M1) (rv := some (Value.int w2)) (st := []) hC (fun l hl => cX3_isPoly_ok M1 a1 _ hw l hl) sm_X3_isPoly k_X3_75 rfl ⟨Nat.le_of_ble_eq_true rfl, Nat.le_of_ble_eq_true rfl⟩ (Nat.zero_le _) ⟨Nat.le_of_ble_eq_true rfl, Nat.le_of_ble_eq_true rfl⟩ dX3_put_6 rfl ?_
  refine J_if_ne (tgt := 18) hC dX3_put_9 (by decide) (fun c3 => ?_) (fun c3 => ?_)
  · have h := ite_f c3 h
    refine J_iload_n (j := 2) hC dX3_put_18 rfl ?_
    refine J_iconst (v := 0) hC dX3_put_19 (by decide) ?_
    refine J_bipush (v := 8) hC dX3_put_20 (by decide) ?_
    refine bnd_c h (fun w5 hw h => ?_)
    refine J_callS (As := [.int a2, .int 0, .int 8]) (M' := M1) (rv := some (Value.int w5)) (st := []) hC (fun l hl => cX3_in_ok M1 a2 0 8 _ hw l hl) sm_X3_in k_X3_40 rfl ⟨Nat.le_of_ble_eq_true rfl, Nat.le_of_ble_eq_true rfl⟩ (Nat.zero_le _) ⟨Nat.le_of_ble_eq_true rfl, Nat.le_of_ble_eq_true rfl⟩ dX3_put_22 rfl ?_
    refine J_if_eq (tgt := 35) hC dX3_put_25 (by decide) (fun c6 => ?_) (fun c6 => ?_)
    · have h := ite_t c6 h
      refine J_aload_n (j := 0) hC dX3_put_35 rfl ?_
      refine J_iconst (v := 2) hC dX3_put_36 (by decide) ?_
      refine ck_c h (fun ho h => ?_)
      refine bnd_c h (fun w7 hw h => ?_)
      refine J_callV (As := [.int 2]) (M' := w7.1) (rv := some (Value.int w7.2)) (st := []) hC (fun l hl => cX3_fails_ok M1 a0 2 _ hw l hl) vm_X3_fails k_X3_79 ho ⟨rfl, rfl⟩ rfl ⟨Nat.le_of_ble_eq_true rfl, Nat.le_of_ble_eq_true rfl⟩ (Nat.zero_le _) ⟨Nat.le_of_ble_eq_true rfl, Nat.le_of_ble_eq_true rfl⟩ dX3_put_37 rfl ?_
      exact J_iret hC dX3_put_40 (by have h9 := Option.some.inj h; subst h9; rfl) (Nat.le_of_ble_eq_true rfl) (Nat.le_of_ble_eq_true rfl)
    · have h := ite_f c6 h
      refine J_iload_n (j := 3) hC dX3_put_28 rfl ?_
      refine bnd_c h (fun w8 hw h => ?_)
      refine J_callS (As := [.int a3]) (M' := M1) (rv := some (Value.int w8)) (st := []) hC (fun l hl => cX3_isSign_ok M1 a3 _ hw l hl) sm_X3_isSign k_X3_82 rfl ⟨Nat.le_of_ble_eq_true rfl, Nat.le_of_ble_eq_true rfl⟩ (Nat.zero_le _) ⟨Nat.le_of_ble_eq_true rfl, Nat.le_of_ble_eq_true rfl⟩ dX3_put_29 rfl ?_
      refine J_if_ne (tgt := 41) hC dX3_put_32 (by decide) (fun c9 => ?_) (fun c9 => ?_)
      · have h := ite_f c9 h
        refine J_aload_n (j := 0) hC dX3_put_41 rfl ?_
        refine ck_c h (fun ho h => ?_)
        refine bnd_c h (fun w11 hw h => ?_)
        refine J_callV (As := []) (M' := w11) (rv := none) (st := []) hC (fun l hl => cX3_saves_ok M1 a0 _ hw l hl) vm_X3_saves k_X3_85 ho ⟨rfl, rfl⟩ rfl ⟨Nat.le_of_ble_eq_true rfl, Nat.le_of_ble_eq_true rfl⟩ (Nat.zero_le _) ⟨Nat.le_of_ble_eq_true rfl, Nat.le_of_ble_eq_true rfl⟩ dX3_put_42 rfl ?_
        refine J_iconst (v := 0) hC dX3_put_45 (by decide) ?_
        refine J_bipush (v := 9) hC dX3_put_46 (by decide) ?_
        refine J_iload_n (j := 1) hC dX3_put_48 rfl ?_
        refine J_imul hC dX3_put_49 ?_
        refine J_iadd hC dX3_put_50 ?_
        refine J_iload_n (j := 2) hC dX3_put_51 rfl ?_
        refine J_iadd hC dX3_put_52 ?_
        refine J_istore (lv' := [(4, .int ((0 + (9 * a1)) + a2)), (0, rf a0), (1, .int a1), (2, .int a2), (3, .int a3)]) hC dX3_put_53 (by decide) rfl ?_
        refine J_aload_n (j := 1) hC dX3_put_55 rfl ?_
        refine J_g3_1 hC k_X3_7 dX3_put_56 h (fun v12 _ h => ?_)
        refine J_iload (j := 0) hC dX3_put_59 rfl ?_
        refine J_iald hC dX3_put_61 h (fun v13 _ h => ?_)
        refine J_istore (lv' := [(5, .int v13), (4, .int ((0 + (9 * a1)) + a2)), (0, rf a0), (1, .int a1), (2, .int a2), (3, .int a3)]) hC dX3_put_62 (by decide) rfl ?_
        refine J_aload_n (j := 2) hC dX3_put_64 rfl ?_
        refine J_g3_1 hC k_X3_7 dX3_put_65 h (fun v14 _ h => ?_)
        refine J_iload (j := 1) hC dX3_put_68 rfl ?_
        refine J_iload_n (j := 5) hC dX3_put_70 rfl ?_
        refine J_iast hC dX3_put_71 h (fun M15 _ h => ?_)
        refine J_aload_n (j := 2) hC dX3_put_72 rfl ?_
        refine J_iload_n (j := 3) hC dX3_put_73 rfl ?_
        refine J_aload_n (j := 2) hC dX3_put_74 rfl ?_
        refine J_iload_n (j := 3) hC dX3_put_75 rfl ?_
        refine ck_c h (fun ho h => ?_)
        refine bnd_c h (fun w16 hw h => ?_)
        refine J_callV (As := [.int a1]) (M' := M15) (rv := some (Value.int w16)) (st := [.int a1, rf a0]) hC (fun l hl => cX3_degree_ok M15 a0 a1 _ hw l hl) vm_X3_degree k_X3_51 ho ⟨rfl, rfl⟩ rfl ⟨Nat.le_of_ble_eq_true rfl, Nat.le_of_ble_eq_true rfl⟩ (Nat.le_of_ble_eq_true rfl) ⟨Nat.le_of_ble_eq_true rfl, Nat.le_of_ble_eq_true rfl⟩ dX3_put_76 rfl ?_
        refine ck_c h (fun ho h => ?_)
        refine bnd_c h (fun w17 hw h => ?_)
        refine J_callV (As := [.int a1, .int w16]) (M' := M15) (rv := some (Value.int w17)) (st := []) hC (fun l hl => cX3_signAt_ok M15 a0 a1 w16 _ hw l hl) vm_X3_signAt k_X3_44 ho ⟨rfl, rfl⟩ rfl ⟨Nat.le_of_ble_eq_true rfl, Nat.le_of_ble_eq_true rfl⟩ (Nat.zero_le _) ⟨Nat.le_of_ble_eq_true rfl, Nat.le_of_ble_eq_true rfl⟩ dX3_put_79 rfl ?_
        refine J_if_ne (tgt := 101) hC dX3_put_82 (by decide) (fun c18 => ?_) (fun c18 => ?_)
        · have h := ite_f c18 h
          refine J_aload_n (j := 2) hC dX3_put_101 rfl ?_
          refine J_iload_n (j := 3) hC dX3_put_102 rfl ?_
          refine ck_c h (fun ho h => ?_)
          refine bnd_c h (fun w22 hw h => ?_)
          refine J_callV (As := [.int a1]) (M' := M15) (rv := some (Value.int w22)) (st := []) hC (fun l hl => cX3_degree_ok M15 a0 a1 _ hw l hl) vm_X3_degree k_X3_51 ho ⟨rfl, rfl⟩ rfl ⟨Nat.le_of_ble_eq_true rfl, Nat.le_of_ble_eq_true rfl⟩ (Nat.zero_le _) ⟨Nat.le_of_ble_eq_true rfl, Nat.le_of_ble_eq_true rfl⟩ dX3_put_103 rfl ?_
          exact J_iret hC dX3_put_106 (by have h9 := Option.some.inj h; subst h9; rfl) (Nat.le_of_ble_eq_true rfl) (Nat.le_of_ble_eq_true rfl)
        · have h := ite_t c18 h
          refine J_aload_n (j := 2) hC dX3_put_85 rfl ?_
          refine J_g3_1 hC k_X3_7 dX3_put_86 h (fun v19 _ h => ?_)
          refine J_iload (j := 1) hC dX3_put_89 rfl ?_
          refine J_iload (j := 0) hC dX3_put_91 rfl ?_
          refine J_iast hC dX3_put_93 h (fun M20 _ h => ?_)
          refine J_aload_n (j := 2) hC dX3_put_94 rfl ?_
          refine J_bipush (v := (-9)) hC dX3_put_95 (by decide) ?_
          refine ck_c h (fun ho h => ?_)
          refine bnd_c h (fun w21 hw h => ?_)
          refine J_callV (As := [.int (-9)]) (M' := w21.1) (rv := some (Value.int w21.2)) (st := []) hC (fun l hl => cX3_refuses_ok M20 a0 (-9) _ hw l hl) vm_X3_refuses k_X3_88 ho ⟨rfl, rfl⟩ rfl ⟨Nat.le_of_ble_eq_true rfl, Nat.le_of_ble_eq_true rfl⟩ (Nat.zero_le _) ⟨Nat.le_of_ble_eq_true rfl, Nat.le_of_ble_eq_true rfl⟩ dX3_put_97 rfl ?_
          exact J_iret hC dX3_put_100 (by have h9 := Option.some.inj h; subst h9; rfl) (Nat.le_of_ble_eq_true rfl) (Nat.le_of_ble_eq_true rfl)
      · have h := ite_t c9 h
        refine J_aload_n (j := 0) hC dX3_put_35 rfl ?_
        refine J_iconst (v := 2) hC dX3_put_36 (by decide) ?_
        refine ck_c h (fun ho h => ?_)
        refine bnd_c h (fun w10 hw h => ?_)
        refine J_callV (As := [.int 2]) (M' := w10.1) (rv := some (Value.int w10.2)) (st := []) hC (fun l hl => cX3_fails_ok M1 a0 2 _ hw l hl) vm_X3_fails k_X3_79 ho ⟨rfl, rfl⟩ rfl ⟨Nat.le_of_ble_eq_true rfl, Nat.le_of_ble_eq_true rfl⟩ (Nat.zero_le _) ⟨Nat.le_of_ble_eq_true rfl, Nat.le_of_ble_eq_true rfl⟩ dX3_put_37 rfl ?_
        exact J_iret hC dX3_put_40 (by have h9 := Option.some.inj h; subst h9; rfl) (Nat.le_of_ble_eq_true rfl) (Nat.le_of_ble_eq_true rfl)
  · have h := ite_t c3 h
    refine J_aload_n (j := 0) hC dX3_put_12 rfl ?_
    refine J_iconst (v := 1) hC dX3_put_13 (by decide) ?_
    refine ck_c h (fun ho h => ?_)
    refine bnd_c h (fun w4 hw h => ?_)
    refine J_callV (As := [.int 1]) (M' := w4.1) (rv := some (Value.int w4.2)) (st := []) hC (fun l hl => cX3_fails_ok M1 a0 1 _ hw l hl) vm_X3_fails k_X3_79 ho ⟨rfl, rfl⟩ rfl ⟨Nat.le_of_ble_eq_true rfl, Nat.le_of_ble_eq_true rfl⟩ (Nat.zero_le _) ⟨Nat.le_of_ble_eq_true rfl, Nat.le_of_ble_eq_true rfl⟩ dX3_put_14 rfl ?_
    exact J_iret hC dX3_put_17 (by have h9 := Option.some.inj h; subst h9; rfl) (Nat.le_of_ble_eq_true rfl) (Nat.le_of_ble_eq_true rfl)
abbrev rm_X3_copy : Room := { frames := 2, cells := 0, slots := 0, locals := 45 }

set_option maxHeartbeats 4000000 in
set_option maxRecDepth 100000 in
theorem tX3_copy_31 {C : JC} {r0 : Mem × Int32} (x0 : Option Nat) (x1 : Int32) (x2 : Int32) (hC : Ok C false cX3_copy 4 rm_X3_copy (some .int) RX3 (r0.1, Sum.inr (some (Value.int r0.2))))  (k69 : Mem → Int32 → Option (Mem × Int32)) (hk69 : ∀ (M : Mem) (x3 : Int32), k69 M x3 = some r0 → J C 0 0 M 69 [(0, rf x0), (1, .int x1), (2, .int x2), (3, .int x3)] []) : ∀ (n : Nat) (M : Mem) (x3 : Int32), fX3_copy_31 x0 x1 x2 k69 n M x3 = some r0 → J C 0 0 M 31 [(0, rf x0), (1, .int x1), (2, .int x2), (3, .int x3)] [] := by
  intro n
  induction n with
  | zero => intro M x3 h; have h : none = some r0 := h; cases h
  | succ n ih =>
    intro M x3 h
    rw [fX3_copy_31] at h
    refine J_iload_n (j := 3) hC dX3_copy_31 rfl ?_
    refine J_bipush (v := 9) hC dX3_copy_32 (by decide) ?_
    refine J_icmp_ge (tgt := 69) hC dX3_copy_34 (by decide) (fun c9 => ?_) (fun c9 => ?_)
    · have h := ite_t c9 h
      refine J_sub [0, 1, 2, 3] rfl ?_
      exact hk69 M x3 h
    · have h := ite_f c9 h
      refine J_aload_n (j := 0) hC dX3_copy_37 rfl ?_
      refine J_g3_1 hC k_X3_7 dX3_copy_38 h (fun v10 _ h => ?_)
      refine J_iconst (v := 0) hC dX3_copy_41 (by decide) ?_
      refine J_bipush (v := 9) hC dX3_copy_42 (by decide) ?_
      refine J_iload_n (j := 2) hC dX3_copy_44 rfl ?_
      refine J_imul hC dX3_copy_45 ?_
      refine J_iadd hC dX3_copy_46 ?_
      refine J_iload_n (j := 3) hC dX3_copy_47 rfl ?_
      refine J_iadd hC dX3_copy_48 ?_
      refine J_aload_n (j := 0) hC dX3_copy_49 rfl ?_
      refine J_g3_1 hC k_X3_7 dX3_copy_50 h (fun v11 _ h => ?_)
      refine J_iconst (v := 0) hC dX3_copy_53 (by decide) ?_
      refine J_bipush (v := 9) hC dX3_copy_54 (by decide) ?_
      refine J_iload_n (j := 1) hC dX3_copy_56 rfl ?_
      refine J_imul hC dX3_copy_57 ?_
      refine J_iadd hC dX3_copy_58 ?_
      refine J_iload_n (j := 3) hC dX3_copy_59 rfl ?_
      refine J_iadd hC dX3_copy_60 ?_
      refine J_iald hC dX3_copy_61 h (fun v12 _ h => ?_)
      refine J_iast hC dX3_copy_62 h (fun M13 _ h => ?_)
      refine J_inc (j := 3) (k := 1) (lv' := [(3, .int (x3 + 1)), (0, rf x0), (1, .int x1), (2, .int x2)]) hC dX3_copy_63 (by decide) rfl (by decide) rfl ?_
      refine J_goto (tgt := 31) hC dX3_copy_66 (by decide) ?_
      refine J_sub [1, 2, 3, 0] rfl ?_
      exact ih M13 (x3 + 1) h
set_option maxHeartbeats 4000000 in
set_option maxRecDepth 100000 in
theorem cX3_copy_ok (M : Mem) (a0 : Option Nat) (a1 : Int32) (a2 : Int32) (r0 : Mem × Int32) (h : fX3_copy M a0 a1 a2 = some r0) : ∀ l : Launch, l.stackTraces = false → Con false l yX3_copy cX3_copy 4 (some .int) rm_X3_copy [rf a0, .int a1, .int a2] M (r0.1, Sum.inr (some (Value.int r0.2))) := by
  intro l hst
  refine Con.enter hst (own := RX3) (by decide +kernel) rfl (by exact Nat.le_of_ble_eq_true rfl) (lv0 := [(0, rf a0), (1, .int a1), (2, .int a2)]) (rfl) (fun C hC hin => ?_)
  unfold fX3_copy at h
  refine J_aload_n (j := 0) hC dX3_copy_0 rfl ?_
  refine J_iconst (v := 0) hC dX3_copy_1 (by decide) ?_
  refine J_p3_0 hC k_X3_36 dX3_copy_2 h (fun M1 _ h => ?_)
  refine J_iload_n (j := 1) hC dX3_copy_5 rfl ?_
  refine bnd_c h (fun w2 hw h => ?_)
  refine J_callS (As := [.int a1]) (M' := M1) (rv := some (Value.int w2)) (st := []) hC (fun l hl => cX3_isPoly_ok M1 a1 _ hw l hl) sm_X3_isPoly k_X3_75 rfl ⟨Nat.le_of_ble_eq_true rfl, Nat.le_of_ble_eq_true rfl⟩ (Nat.zero_le _) ⟨Nat.le_of_ble_eq_true rfl, Nat.le_of_ble_eq_true rfl⟩ dX3_copy_6 rfl ?_
  refine J_if_eq (tgt := 19) hC dX3_copy_9 (by decide) (fun c3 => ?_) (fun c3 => ?_)
  · have h := ite_t c3 h
    refine J_aload_n (j := 0) hC dX3_copy_19 rfl ?_
    refine J_iconst (v := 1) hC dX3_copy_20 (by decide) ?_
    refine ck_c h (fun ho h => ?_)
    refine bnd_c h (fun w4 hw h => ?_)
    refine J_callV (As := [.int 1]) (M' := w4.1) (rv := some (Value.int w4.2)) (st := []) hC (fun l hl => cX3_fails_ok M1 a0 1 _ hw l hl) vm_X3_fails k_X3_79 ho ⟨rfl, rfl⟩ rfl ⟨Nat.le_of_ble_eq_true rfl, Nat.le_of_ble_eq_true rfl⟩ (Nat.zero_le _) ⟨Nat.le_of_ble_eq_true rfl, Nat.le_of_ble_eq_true rfl⟩ dX3_copy_21 rfl ?_
    exact J_iret hC dX3_copy_24 (by have h9 := Option.some.inj h; subst h9; rfl) (Nat.le_of_ble_eq_true rfl) (Nat.le_of_ble_eq_true rfl)
  · have h := ite_f c3 h
    refine J_iload_n (j := 2) hC dX3_copy_12 rfl ?_
    refine bnd_c h (fun w5 hw h => ?_)
    refine J_callS (As := [.int a2]) (M' := M1) (rv := some (Value.int w5)) (st := []) hC (fun l hl => cX3_isPoly_ok M1 a2 _ hw l hl) sm_X3_isPoly k_X3_75 rfl ⟨Nat.le_of_ble_eq_true rfl, Nat.le_of_ble_eq_true rfl⟩ (Nat.zero_le _) ⟨Nat.le_of_ble_eq_true rfl, Nat.le_of_ble_eq_true rfl⟩ dX3_copy_13 rfl ?_
    refine J_if_ne (tgt := 25) hC dX3_copy_16 (by decide) (fun c6 => ?_) (fun c6 => ?_)
    · have h := ite_f c6 h
      refine J_aload_n (j := 0) hC dX3_copy_25 rfl ?_
      refine ck_c h (fun ho h => ?_)
      refine bnd_c h (fun w8 hw h => ?_)
      refine J_callV (As := []) (M' := w8) (rv := none) (st := []) hC (fun l hl => cX3_saves_ok M1 a0 _ hw l hl) vm_X3_saves k_X3_85 ho ⟨rfl, rfl⟩ rfl ⟨Nat.le_of_ble_eq_true rfl, Nat.le_of_ble_eq_true rfl⟩ (Nat.zero_le _) ⟨Nat.le_of_ble_eq_true rfl, Nat.le_of_ble_eq_true rfl⟩ dX3_copy_26 rfl ?_
      refine J_iconst (v := 0) hC dX3_copy_29 (by decide) ?_
      refine J_istore_n (i := 3) (lv' := [(3, .int 0), (0, rf a0), (1, .int a1), (2, .int a2)]) rfl hC dX3_copy_30 (by decide) rfl ?_
      refine J_sub [1, 2, 3, 0] rfl ?_
      refine tX3_copy_31 a0 a1 a2 hC _ (fun M14 x15 h => ?_) FU w8 0 h
      · refine J_aload_n (j := 0) hC dX3_copy_69 rfl ?_
        refine J_iload_n (j := 2) hC dX3_copy_70 rfl ?_
        refine ck_c h (fun ho h => ?_)
        refine bnd_c h (fun w16 hw h => ?_)
        refine J_callV (As := [.int a2]) (M' := M14) (rv := some (Value.int w16)) (st := []) hC (fun l hl => cX3_degree_ok M14 a0 a2 _ hw l hl) vm_X3_degree k_X3_51 ho ⟨rfl, rfl⟩ rfl ⟨Nat.le_of_ble_eq_true rfl, Nat.le_of_ble_eq_true rfl⟩ (Nat.zero_le _) ⟨Nat.le_of_ble_eq_true rfl, Nat.le_of_ble_eq_true rfl⟩ dX3_copy_71 rfl ?_
        exact J_iret hC dX3_copy_74 (by have h9 := Option.some.inj h; subst h9; rfl) (Nat.le_of_ble_eq_true rfl) (Nat.le_of_ble_eq_true rfl)
    · have h := ite_t c6 h
      refine J_aload_n (j := 0) hC dX3_copy_19 rfl ?_
      refine J_iconst (v := 1) hC dX3_copy_20 (by decide) ?_
      refine ck_c h (fun ho h => ?_)
      refine bnd_c h (fun w7 hw h => ?_)
      refine J_callV (As := [.int 1]) (M' := w7.1) (rv := some (Value.int w7.2)) (st := []) hC (fun l hl => cX3_fails_ok M1 a0 1 _ hw l hl) vm_X3_fails k_X3_79 ho ⟨rfl, rfl⟩ rfl ⟨Nat.le_of_ble_eq_true rfl, Nat.le_of_ble_eq_true rfl⟩ (Nat.zero_le _) ⟨Nat.le_of_ble_eq_true rfl, Nat.le_of_ble_eq_true rfl⟩ dX3_copy_21 rfl ?_
      exact J_iret hC dX3_copy_24 (by have h9 := Option.some.inj h; subst h9; rfl) (Nat.le_of_ble_eq_true rfl) (Nat.le_of_ble_eq_true rfl)
abbrev rm_X3_divide : Room := { frames := 3, cells := 0, slots := 0, locals := 76 }

set_option maxHeartbeats 4000000 in
set_option maxRecDepth 100000 in
theorem tX3_divide_53 {C : JC} {r0 : Mem × Int32} (x0 : Option Nat) (x1 : Int32) (x2 : Int32) (hC : Ok C false cX3_divide 4 rm_X3_divide (some .int) RX3 (r0.1, Sum.inr (some (Value.int r0.2))))  (k84 : Mem → Int32 → Option (Mem × Int32)) (hk84 : ∀ (M : Mem) (x3 : Int32), k84 M x3 = some r0 → J C 0 0 M 84 [(0, rf x0), (1, .int x1), (2, .int x2), (3, .int x3)] []) : ∀ (n : Nat) (M : Mem) (x3 : Int32), fX3_divide_53 x0 x1 x2 k84 n M x3 = some r0 → J C 0 0 M 53 [(0, rf x0), (1, .int x1), (2, .int x2), (3, .int x3)] [] := by
  intro n
  induction n with
  | zero => intro M x3 h; have h : none = some r0 := h; cases h
  | succ n ih =>
    intro M x3 h
    rw [fX3_divide_53] at h
    refine J_iload_n (j := 3) hC dX3_divide_53 rfl ?_
    refine J_bipush (v := 9) hC dX3_divide_54 (by decide) ?_
    refine J_icmp_ge (tgt := 84) hC dX3_divide_56 (by decide) (fun c12 => ?_) (fun c12 => ?_)
    · have h := ite_t c12 h
      refine J_sub [0, 1, 2, 3] rfl ?_
      exact hk84 M x3 h
    · have h := ite_f c12 h
      refine J_aload_n (j := 0) hC dX3_divide_59 rfl ?_
      refine J_g3_1 hC k_X3_7 dX3_divide_60 h (fun v13 _ h => ?_)
      refine J_iconst (v := 0) hC dX3_divide_63 (by decide) ?_
      refine J_bipush (v := 9) hC dX3_divide_64 (by decide) ?_
      refine J_iload_n (j := 1) hC dX3_divide_66 rfl ?_
      refine J_imul hC dX3_divide_67 ?_
      refine J_iadd hC dX3_divide_68 ?_
      refine J_iload_n (j := 3) hC dX3_divide_69 rfl ?_
      refine J_iadd hC dX3_divide_70 ?_
      refine J_aload_n (j := 0) hC dX3_divide_71 rfl ?_
      refine J_g3_9 hC k_X3_29 dX3_divide_72 h (fun v14 _ h => ?_)
      refine J_iload_n (j := 3) hC dX3_divide_75 rfl ?_
      refine J_iald hC dX3_divide_76 h (fun v15 _ h => ?_)
      refine J_iast hC dX3_divide_77 h (fun M16 _ h => ?_)
      refine J_inc (j := 3) (k := 1) (lv' := [(3, .int (x3 + 1)), (0, rf x0), (1, .int x1), (2, .int x2)]) hC dX3_divide_78 (by decide) rfl (by decide) rfl ?_
      refine J_goto (tgt := 53) hC dX3_divide_81 (by decide) ?_
      refine J_sub [1, 2, 3, 0] rfl ?_
      exact ih M16 (x3 + 1) h
set_option maxHeartbeats 4000000 in
set_option maxRecDepth 100000 in
theorem cX3_divide_ok (M : Mem) (a0 : Option Nat) (a1 : Int32) (a2 : Int32) (r0 : Mem × Int32) (h : fX3_divide M a0 a1 a2 = some r0) : ∀ l : Launch, l.stackTraces = false → Con false l yX3_divide cX3_divide 4 (some .int) rm_X3_divide [rf a0, .int a1, .int a2] M (r0.1, Sum.inr (some (Value.int r0.2))) := by
  intro l hst
  refine Con.enter hst (own := RX3) (by decide +kernel) rfl (by exact Nat.le_of_ble_eq_true rfl) (lv0 := [(0, rf a0), (1, .int a1), (2, .int a2)]) (rfl) (fun C hC hin => ?_)
  unfold fX3_divide at h
  refine J_aload_n (j := 0) hC dX3_divide_0 rfl ?_
  refine J_iconst (v := 0) hC dX3_divide_1 (by decide) ?_
  refine J_p3_0 hC k_X3_36 dX3_divide_2 h (fun M1 _ h => ?_)
  refine J_iload_n (j := 1) hC dX3_divide_5 rfl ?_
  refine bnd_c h (fun w2 hw h => ?_)
  refine J_callS (As := [.int a1]) (M' := M1) (rv := some (Value.int w2)) (st := []) hC (fun l hl => cX3_isPoly_ok M1 a1 _ hw l hl) sm_X3_isPoly k_X3_75 rfl ⟨Nat.le_of_ble_eq_true rfl, Nat.le_of_ble_eq_true rfl⟩ (Nat.zero_le _) ⟨Nat.le_of_ble_eq_true rfl, Nat.le_of_ble_eq_true rfl⟩ dX3_divide_6 rfl ?_
  refine J_if_ne (tgt := 18) hC dX3_divide_9 (by decide) (fun c3 => ?_) (fun c3 => ?_)
  · have h := ite_f c3 h
    refine J_iload_n (j := 2) hC dX3_divide_18 rfl ?_
    refine bnd_c h (fun w5 hw h => ?_)
    refine J_callS (As := [.int a2]) (M' := M1) (rv := some (Value.int w5)) (st := []) hC (fun l hl => cX3_isSign_ok M1 a2 _ hw l hl) sm_X3_isSign k_X3_82 rfl ⟨Nat.le_of_ble_eq_true rfl, Nat.le_of_ble_eq_true rfl⟩ (Nat.zero_le _) ⟨Nat.le_of_ble_eq_true rfl, Nat.le_of_ble_eq_true rfl⟩ dX3_divide_19 rfl ?_
    refine J_if_ne (tgt := 31) hC dX3_divide_22 (by decide) (fun c6 => ?_) (fun c6 => ?_)
    · have h := ite_f c6 h
      refine J_aload_n (j := 0) hC dX3_divide_31 rfl ?_
      refine ck_c h (fun ho h => ?_)
      refine bnd_c h (fun w8 hw h => ?_)
      refine J_callV (As := []) (M' := w8) (rv := none) (st := []) hC (fun l hl => cX3_saves_ok M1 a0 _ hw l hl) vm_X3_saves k_X3_85 ho ⟨rfl, rfl⟩ rfl ⟨Nat.le_of_ble_eq_true rfl, Nat.le_of_ble_eq_true rfl⟩ (Nat.zero_le _) ⟨Nat.le_of_ble_eq_true rfl, Nat.le_of_ble_eq_true rfl⟩ dX3_divide_32 rfl ?_
      refine J_aload_n (j := 0) hC dX3_divide_35 rfl ?_
      refine J_iload_n (j := 1) hC dX3_divide_36 rfl ?_
      refine J_iload_n (j := 2) hC dX3_divide_37 rfl ?_
      refine ck_c h (fun ho h => ?_)
      refine bnd_c h (fun w9 hw h => ?_)
      refine J_callV (As := [.int a1, .int a2]) (M' := w9.1) (rv := some (Value.int w9.2)) (st := []) hC (fun l hl => cX3_divides_ok w8 a0 a1 a2 _ hw l hl) vm_X3_divides k_X3_91 ho ⟨rfl, rfl⟩ rfl ⟨Nat.le_of_ble_eq_true rfl, Nat.le_of_ble_eq_true rfl⟩ (Nat.zero_le _) ⟨Nat.le_of_ble_eq_true rfl, Nat.le_of_ble_eq_true rfl⟩ dX3_divide_38 rfl ?_
      refine J_if_ne (tgt := 51) hC dX3_divide_41 (by decide) (fun c10 => ?_) (fun c10 => ?_)
      · have h := ite_f c10 h
        refine J_iconst (v := 0) hC dX3_divide_51 (by decide) ?_
        refine J_istore_n (i := 3) (lv' := [(3, .int 0), (0, rf a0), (1, .int a1), (2, .int a2)]) rfl hC dX3_divide_52 (by decide) rfl ?_
        refine J_sub [1, 2, 3, 0] rfl ?_
        refine tX3_divide_53 a0 a1 a2 hC _ (fun M17 x18 h => ?_) FU w9.1 0 h
        · refine J_aload_n (j := 0) hC dX3_divide_84 rfl ?_
          refine J_g3_1 hC k_X3_7 dX3_divide_85 h (fun v19 _ h => ?_)
          refine J_bipush (v := 54) hC dX3_divide_88 (by decide) ?_
          refine J_dup2 hC dX3_divide_90 rfl rfl ?_
          refine J_iald hC dX3_divide_91 h (fun v20 _ h => ?_)
          refine J_iconst (v := 1) hC dX3_divide_92 (by decide) ?_
          refine J_iadd hC dX3_divide_93 ?_
          refine J_iast hC dX3_divide_94 h (fun M21 _ h => ?_)
          refine J_aload_n (j := 0) hC dX3_divide_95 rfl ?_
          refine J_iload_n (j := 1) hC dX3_divide_96 rfl ?_
          refine ck_c h (fun ho h => ?_)
          refine bnd_c h (fun w22 hw h => ?_)
          refine J_callV (As := [.int a1]) (M' := M21) (rv := some (Value.int w22)) (st := []) hC (fun l hl => cX3_degree_ok M21 a0 a1 _ hw l hl) vm_X3_degree k_X3_51 ho ⟨rfl, rfl⟩ rfl ⟨Nat.le_of_ble_eq_true rfl, Nat.le_of_ble_eq_true rfl⟩ (Nat.zero_le _) ⟨Nat.le_of_ble_eq_true rfl, Nat.le_of_ble_eq_true rfl⟩ dX3_divide_97 rfl ?_
          exact J_iret hC dX3_divide_100 (by have h9 := Option.some.inj h; subst h9; rfl) (Nat.le_of_ble_eq_true rfl) (Nat.le_of_ble_eq_true rfl)
      · have h := ite_t c10 h
        refine J_aload_n (j := 0) hC dX3_divide_44 rfl ?_
        refine J_bipush (v := (-9)) hC dX3_divide_45 (by decide) ?_
        refine ck_c h (fun ho h => ?_)
        refine bnd_c h (fun w11 hw h => ?_)
        refine J_callV (As := [.int (-9)]) (M' := w11.1) (rv := some (Value.int w11.2)) (st := []) hC (fun l hl => cX3_refuses_ok w9.1 a0 (-9) _ hw l hl) vm_X3_refuses k_X3_88 ho ⟨rfl, rfl⟩ rfl ⟨Nat.le_of_ble_eq_true rfl, Nat.le_of_ble_eq_true rfl⟩ (Nat.zero_le _) ⟨Nat.le_of_ble_eq_true rfl, Nat.le_of_ble_eq_true rfl⟩ dX3_divide_47 rfl ?_
        exact J_iret hC dX3_divide_50 (by have h9 := Option.some.inj h; subst h9; rfl) (Nat.le_of_ble_eq_true rfl) (Nat.le_of_ble_eq_true rfl)
    · have h := ite_t c6 h
      refine J_aload_n (j := 0) hC dX3_divide_25 rfl ?_
      refine J_iconst (v := 2) hC dX3_divide_26 (by decide) ?_
      refine ck_c h (fun ho h => ?_)
      refine bnd_c h (fun w7 hw h => ?_)
      refine J_callV (As := [.int 2]) (M' := w7.1) (rv := some (Value.int w7.2)) (st := []) hC (fun l hl => cX3_fails_ok M1 a0 2 _ hw l hl) vm_X3_fails k_X3_79 ho ⟨rfl, rfl⟩ rfl ⟨Nat.le_of_ble_eq_true rfl, Nat.le_of_ble_eq_true rfl⟩ (Nat.zero_le _) ⟨Nat.le_of_ble_eq_true rfl, Nat.le_of_ble_eq_true rfl⟩ dX3_divide_27 rfl ?_
      exact J_iret hC dX3_divide_30 (by have h9 := Option.some.inj h; subst h9; rfl) (Nat.le_of_ble_eq_true rfl) (Nat.le_of_ble_eq_true rfl)
  · have h := ite_t c3 h
    refine J_aload_n (j := 0) hC dX3_divide_12 rfl ?_
    refine J_iconst (v := 1) hC dX3_divide_13 (by decide) ?_
    refine ck_c h (fun ho h => ?_)
    refine bnd_c h (fun w4 hw h => ?_)
    refine J_callV (As := [.int 1]) (M' := w4.1) (rv := some (Value.int w4.2)) (st := []) hC (fun l hl => cX3_fails_ok M1 a0 1 _ hw l hl) vm_X3_fails k_X3_79 ho ⟨rfl, rfl⟩ rfl ⟨Nat.le_of_ble_eq_true rfl, Nat.le_of_ble_eq_true rfl⟩ (Nat.zero_le _) ⟨Nat.le_of_ble_eq_true rfl, Nat.le_of_ble_eq_true rfl⟩ dX3_divide_14 rfl ?_
    exact J_iret hC dX3_divide_17 (by have h9 := Option.some.inj h; subst h9; rfl) (Nat.le_of_ble_eq_true rfl) (Nat.le_of_ble_eq_true rfl)
abbrev rm_X3_root : Room := { frames := 1, cells := 0, slots := 0, locals := 22 }

set_option maxHeartbeats 4000000 in
set_option maxRecDepth 100000 in
theorem cX3_root_ok (M : Mem) (a0 : Option Nat) (a1 : Int32) (r0 : Mem × Int32) (h : fX3_root M a0 a1 = some r0) : ∀ l : Launch, l.stackTraces = false → Con false l yX3_root cX3_root 2 (some .int) rm_X3_root [rf a0, .int a1] M (r0.1, Sum.inr (some (Value.int r0.2))) := by
  intro l hst
  refine Con.enter hst (own := RX3) (by decide +kernel) rfl (by exact Nat.le_of_ble_eq_true rfl) (lv0 := [(0, rf a0), (1, .int a1)]) (rfl) (fun C hC hin => ?_)
  unfold fX3_root at h
  refine J_aload_n (j := 0) hC dX3_root_0 rfl ?_
  refine J_iconst (v := 0) hC dX3_root_1 (by decide) ?_
  refine J_p3_0 hC k_X3_36 dX3_root_2 h (fun M1 _ h => ?_)
  refine J_iload_n (j := 1) hC dX3_root_5 rfl ?_
  refine J_bipush (v := (-9)) hC dX3_root_6 (by decide) ?_
  refine J_bipush (v := 9) hC dX3_root_8 (by decide) ?_
  refine bnd_c h (fun w2 hw h => ?_)
  refine J_callS (As := [.int a1, .int (-9), .int 9]) (M' := M1) (rv := some (Value.int w2)) (st := []) hC (fun l hl => cX3_in_ok M1 a1 (-9) 9 _ hw l hl) sm_X3_in k_X3_40 rfl ⟨Nat.le_of_ble_eq_true rfl, Nat.le_of_ble_eq_true rfl⟩ (Nat.zero_le _) ⟨Nat.le_of_ble_eq_true rfl, Nat.le_of_ble_eq_true rfl⟩ dX3_root_10 rfl ?_
  refine J_if_ne (tgt := 22) hC dX3_root_13 (by decide) (fun c3 => ?_) (fun c3 => ?_)
  · have h := ite_f c3 h
    refine J_aload_n (j := 0) hC dX3_root_22 rfl ?_
    refine ck_c h (fun ho h => ?_)
    refine bnd_c h (fun w5 hw h => ?_)
    refine J_callV (As := []) (M' := w5) (rv := none) (st := []) hC (fun l hl => cX3_saves_ok M1 a0 _ hw l hl) vm_X3_saves k_X3_85 ho ⟨rfl, rfl⟩ rfl ⟨Nat.le_of_ble_eq_true rfl, Nat.le_of_ble_eq_true rfl⟩ (Nat.zero_le _) ⟨Nat.le_of_ble_eq_true rfl, Nat.le_of_ble_eq_true rfl⟩ dX3_root_23 rfl ?_
    refine J_aload_n (j := 0) hC dX3_root_26 rfl ?_
    refine J_g3_1 hC k_X3_7 dX3_root_27 h (fun v6 _ h => ?_)
    refine J_bipush (v := 45) hC dX3_root_30 (by decide) ?_
    refine J_iald hC dX3_root_32 h (fun v7 _ h => ?_)
    refine J_bipush (v := 8) hC dX3_root_33 (by decide) ?_
    refine J_icmp_ne (tgt := 45) hC dX3_root_35 (by decide) (fun c8 => ?_) (fun c8 => ?_)
    · have h := ite_f c8 h
      refine J_aload_n (j := 0) hC dX3_root_45 rfl ?_
      refine J_g3_1 hC k_X3_7 dX3_root_46 h (fun v10 _ h => ?_)
      refine J_bipush (v := 46) hC dX3_root_49 (by decide) ?_
      refine J_aload_n (j := 0) hC dX3_root_51 rfl ?_
      refine J_g3_1 hC k_X3_7 dX3_root_52 h (fun v11 _ h => ?_)
      refine J_bipush (v := 45) hC dX3_root_55 (by decide) ?_
      refine J_iald hC dX3_root_57 h (fun v12 _ h => ?_)
      refine J_iadd hC dX3_root_58 ?_
      refine J_iload_n (j := 1) hC dX3_root_59 rfl ?_
      refine J_iast hC dX3_root_60 h (fun M13 _ h => ?_)
      refine J_aload_n (j := 0) hC dX3_root_61 rfl ?_
      refine J_g3_1 hC k_X3_7 dX3_root_62 h (fun v14 _ h => ?_)
      refine J_bipush (v := 45) hC dX3_root_65 (by decide) ?_
      refine J_dup2 hC dX3_root_67 rfl rfl ?_
      refine J_iald hC dX3_root_68 h (fun v15 _ h => ?_)
      refine J_iconst (v := 1) hC dX3_root_69 (by decide) ?_
      refine J_iadd hC dX3_root_70 ?_
      refine J_iast hC dX3_root_71 h (fun M16 _ h => ?_)
      refine J_aload_n (j := 0) hC dX3_root_72 rfl ?_
      refine J_g3_1 hC k_X3_7 dX3_root_73 h (fun v17 _ h => ?_)
      refine J_bipush (v := 45) hC dX3_root_76 (by decide) ?_
      refine J_iald hC dX3_root_78 h (fun v18 _ h => ?_)
      exact J_iret hC dX3_root_79 (by have h9 := Option.some.inj h; subst h9; rfl) (Nat.le_of_ble_eq_true rfl) (Nat.le_of_ble_eq_true rfl)
    · have h := ite_t c8 h
      refine J_aload_n (j := 0) hC dX3_root_38 rfl ?_
      refine J_bipush (v := (-9)) hC dX3_root_39 (by decide) ?_
      refine ck_c h (fun ho h => ?_)
      refine bnd_c h (fun w9 hw h => ?_)
      refine J_callV (As := [.int (-9)]) (M' := w9.1) (rv := some (Value.int w9.2)) (st := []) hC (fun l hl => cX3_refuses_ok w5 a0 (-9) _ hw l hl) vm_X3_refuses k_X3_88 ho ⟨rfl, rfl⟩ rfl ⟨Nat.le_of_ble_eq_true rfl, Nat.le_of_ble_eq_true rfl⟩ (Nat.zero_le _) ⟨Nat.le_of_ble_eq_true rfl, Nat.le_of_ble_eq_true rfl⟩ dX3_root_41 rfl ?_
      exact J_iret hC dX3_root_44 (by have h9 := Option.some.inj h; subst h9; rfl) (Nat.le_of_ble_eq_true rfl) (Nat.le_of_ble_eq_true rfl)
  · have h := ite_t c3 h
    refine J_aload_n (j := 0) hC dX3_root_16 rfl ?_
    refine J_iconst (v := 1) hC dX3_root_17 (by decide) ?_
    refine ck_c h (fun ho h => ?_)
    refine bnd_c h (fun w4 hw h => ?_)
    refine J_callV (As := [.int 1]) (M' := w4.1) (rv := some (Value.int w4.2)) (st := []) hC (fun l hl => cX3_fails_ok M1 a0 1 _ hw l hl) vm_X3_fails k_X3_79 ho ⟨rfl, rfl⟩ rfl ⟨Nat.le_of_ble_eq_true rfl, Nat.le_of_ble_eq_true rfl⟩ (Nat.zero_le _) ⟨Nat.le_of_ble_eq_true rfl, Nat.le_of_ble_eq_true rfl⟩ dX3_root_18 rfl ?_
    exact J_iret hC dX3_root_21 (by have h9 := Option.some.inj h; subst h9; rfl) (Nat.le_of_ble_eq_true rfl) (Nat.le_of_ble_eq_true rfl)
abbrev rm_X3_unroot : Room := { frames := 1, cells := 0, slots := 0, locals := 21 }

set_option maxHeartbeats 4000000 in
set_option maxRecDepth 100000 in
theorem cX3_unroot_ok (M : Mem) (a0 : Option Nat) (r0 : Mem × Int32) (h : fX3_unroot M a0 = some r0) : ∀ l : Launch, l.stackTraces = false → Con false l yX3_unroot cX3_unroot 2 (some .int) rm_X3_unroot [rf a0] M (r0.1, Sum.inr (some (Value.int r0.2))) := by
  intro l hst
  refine Con.enter hst (own := RX3) (by decide +kernel) rfl (by exact Nat.le_of_ble_eq_true rfl) (lv0 := [(0, rf a0)]) (rfl) (fun C hC hin => ?_)
  unfold fX3_unroot at h
  refine J_aload_n (j := 0) hC dX3_unroot_0 rfl ?_
  refine J_iconst (v := 0) hC dX3_unroot_1 (by decide) ?_
  refine J_p3_0 hC k_X3_36 dX3_unroot_2 h (fun M1 _ h => ?_)
  refine J_aload_n (j := 0) hC dX3_unroot_5 rfl ?_
  refine ck_c h (fun ho h => ?_)
  refine bnd_c h (fun w2 hw h => ?_)
  refine J_callV (As := []) (M' := w2) (rv := none) (st := []) hC (fun l hl => cX3_saves_ok M1 a0 _ hw l hl) vm_X3_saves k_X3_85 ho ⟨rfl, rfl⟩ rfl ⟨Nat.le_of_ble_eq_true rfl, Nat.le_of_ble_eq_true rfl⟩ (Nat.zero_le _) ⟨Nat.le_of_ble_eq_true rfl, Nat.le_of_ble_eq_true rfl⟩ dX3_unroot_6 rfl ?_
  refine J_aload_n (j := 0) hC dX3_unroot_9 rfl ?_
  refine J_g3_1 hC k_X3_7 dX3_unroot_10 h (fun v3 _ h => ?_)
  refine J_bipush (v := 45) hC dX3_unroot_13 (by decide) ?_
  refine J_iald hC dX3_unroot_15 h (fun v4 _ h => ?_)
  refine J_if_ne (tgt := 26) hC dX3_unroot_16 (by decide) (fun c5 => ?_) (fun c5 => ?_)
  · have h := ite_f c5 h
    refine J_aload_n (j := 0) hC dX3_unroot_26 rfl ?_
    refine J_g3_1 hC k_X3_7 dX3_unroot_27 h (fun v7 _ h => ?_)
    refine J_bipush (v := 45) hC dX3_unroot_30 (by decide) ?_
    refine J_dup2 hC dX3_unroot_32 rfl rfl ?_
    refine J_iald hC dX3_unroot_33 h (fun v8 _ h => ?_)
    refine J_iconst (v := 1) hC dX3_unroot_34 (by decide) ?_
    refine J_isub hC dX3_unroot_35 ?_
    refine J_iast hC dX3_unroot_36 h (fun M9 _ h => ?_)
    refine J_aload_n (j := 0) hC dX3_unroot_37 rfl ?_
    refine J_g3_1 hC k_X3_7 dX3_unroot_38 h (fun v10 _ h => ?_)
    refine J_bipush (v := 46) hC dX3_unroot_41 (by decide) ?_
    refine J_aload_n (j := 0) hC dX3_unroot_43 rfl ?_
    refine J_g3_1 hC k_X3_7 dX3_unroot_44 h (fun v11 _ h => ?_)
    refine J_bipush (v := 45) hC dX3_unroot_47 (by decide) ?_
    refine J_iald hC dX3_unroot_49 h (fun v12 _ h => ?_)
    refine J_iadd hC dX3_unroot_50 ?_
    refine J_iald hC dX3_unroot_51 h (fun v13 _ h => ?_)
    refine J_istore_n (i := 1) (lv' := [(1, .int v13), (0, rf a0)]) rfl hC dX3_unroot_52 (by decide) rfl ?_
    refine J_aload_n (j := 1) hC dX3_unroot_53 rfl ?_
    refine J_g3_1 hC k_X3_7 dX3_unroot_54 h (fun v14 _ h => ?_)
    refine J_bipush (v := 46) hC dX3_unroot_57 (by decide) ?_
    refine J_aload_n (j := 1) hC dX3_unroot_59 rfl ?_
    refine J_g3_1 hC k_X3_7 dX3_unroot_60 h (fun v15 _ h => ?_)
    refine J_bipush (v := 45) hC dX3_unroot_63 (by decide) ?_
    refine J_iald hC dX3_unroot_65 h (fun v16 _ h => ?_)
    refine J_iadd hC dX3_unroot_66 ?_
    refine J_iconst (v := 0) hC dX3_unroot_67 (by decide) ?_
    refine J_iast hC dX3_unroot_68 h (fun M17 _ h => ?_)
    refine J_iload_n (j := 0) hC dX3_unroot_69 rfl ?_
    exact J_iret hC dX3_unroot_70 (by have h9 := Option.some.inj h; subst h9; rfl) (Nat.le_of_ble_eq_true rfl) (Nat.le_of_ble_eq_true rfl)
  · have h := ite_t c5 h
    refine J_aload_n (j := 0) hC dX3_unroot_19 rfl ?_
    refine J_bipush (v := 99) hC dX3_unroot_20 (by decide) ?_
    refine ck_c h (fun ho h => ?_)
    refine bnd_c h (fun w6 hw h => ?_)
    refine J_callV (As := [.int 99]) (M' := w6.1) (rv := some (Value.int w6.2)) (st := []) hC (fun l hl => cX3_refuses_ok w2 a0 99 _ hw l hl) vm_X3_refuses k_X3_88 ho ⟨rfl, rfl⟩ rfl ⟨Nat.le_of_ble_eq_true rfl, Nat.le_of_ble_eq_true rfl⟩ (Nat.zero_le _) ⟨Nat.le_of_ble_eq_true rfl, Nat.le_of_ble_eq_true rfl⟩ dX3_unroot_22 rfl ?_
    exact J_iret hC dX3_unroot_25 (by have h9 := Option.some.inj h; subst h9; rfl) (Nat.le_of_ble_eq_true rfl) (Nat.le_of_ble_eq_true rfl)
abbrev rm_X3_multiplies : Room := { frames := 0, cells := 0, slots := 0, locals := 0 }

set_option maxHeartbeats 4000000 in
set_option maxRecDepth 100000 in
theorem tX3_multiplies_2 {C : JC} {r0 : Mem} (x0 : Option Nat) (hC : Ok C false cX3_multiplies 3 rm_X3_multiplies none RX3 (r0, Sum.inr none))  (k21 : Mem → Int32 → Option (Mem)) (hk21 : ∀ (M : Mem) (x1 : Int32), k21 M x1 = some r0 → J C 0 0 M 21 [(0, rf x0), (1, .int x1)] []) : ∀ (n : Nat) (M : Mem) (x1 : Int32), fX3_multiplies_2 x0 k21 n M x1 = some r0 → J C 0 0 M 2 [(0, rf x0), (1, .int x1)] [] := by
  intro n
  induction n with
  | zero => intro M x1 h; have h : none = some r0 := h; cases h
  | succ n ih =>
    intro M x1 h
    rw [fX3_multiplies_2] at h
    refine J_iload_n (j := 1) hC dX3_multiplies_2 rfl ?_
    refine J_bipush (v := 9) hC dX3_multiplies_3 (by decide) ?_
    refine J_icmp_ge (tgt := 21) hC dX3_multiplies_5 (by decide) (fun c1 => ?_) (fun c1 => ?_)
    · have h := ite_t c1 h
      refine J_sub [0, 1] rfl ?_
      exact hk21 M x1 h
    · have h := ite_f c1 h
      refine J_aload_n (j := 0) hC dX3_multiplies_8 rfl ?_
      refine J_g3_11 hC k_X3_32 dX3_multiplies_9 h (fun v2 _ h => ?_)
      refine J_iload_n (j := 1) hC dX3_multiplies_12 rfl ?_
      refine J_lconst (v := 0) hC dX3_multiplies_13 (by decide) ?_
      refine J_last hC dX3_multiplies_14 h (fun M3 _ h => ?_)
      refine J_inc (j := 1) (k := 1) (lv' := [(1, .int (x1 + 1)), (0, rf x0)]) hC dX3_multiplies_15 (by decide) rfl (by decide) rfl ?_
      refine J_goto (tgt := 2) hC dX3_multiplies_18 (by decide) ?_
      refine J_sub [1, 0] rfl ?_
      exact ih M3 (x1 + 1) h
set_option maxHeartbeats 4000000 in
set_option maxRecDepth 100000 in
theorem tX3_multiplies_44 {C : JC} {r0 : Mem} (x0 : Option Nat) (x1 : Int32) (hC : Ok C false cX3_multiplies 3 rm_X3_multiplies none RX3 (r0, Sum.inr none))  (k94 : Mem → Int32 → Option (Mem)) (hk94 : ∀ (M : Mem) (x2 : Int32), k94 M x2 = some r0 → J C 0 0 M 94 [(0, rf x0), (1, .int x1), (2, .int x2)] []) : ∀ (n : Nat) (M : Mem) (x2 : Int32), fX3_multiplies_44 x0 x1 k94 n M x2 = some r0 → J C 0 0 M 44 [(0, rf x0), (1, .int x1), (2, .int x2)] [] := by
  intro n
  induction n with
  | zero => intro M x2 h; have h : none = some r0 := h; cases h
  | succ n ih =>
    intro M x2 h
    rw [fX3_multiplies_44] at h
    refine J_iload_n (j := 2) hC dX3_multiplies_44 rfl ?_
    refine J_if_lt (tgt := 94) hC dX3_multiplies_45 (by decide) (fun c11 => ?_) (fun c11 => ?_)
    · have h := ite_t c11 h
      refine J_sub [0, 1, 2] rfl ?_
      exact hk94 M x2 h
    · have h := ite_f c11 h
      refine J_aload_n (j := 0) hC dX3_multiplies_48 rfl ?_
      refine J_g3_11 hC k_X3_32 dX3_multiplies_49 h (fun v12 _ h => ?_)
      refine J_iload_n (j := 2) hC dX3_multiplies_52 rfl ?_
      refine J_iload_n (j := 2) hC dX3_multiplies_53 rfl ?_
      refine J_if_ne (tgt := 61) hC dX3_multiplies_54 (by decide) (fun c13 => ?_) (fun c13 => ?_)
      · have h := ite_f c13 h
        refine J_aload_n (j := 0) hC dX3_multiplies_61 rfl ?_
        refine J_g3_11 hC k_X3_32 dX3_multiplies_62 h (fun v19 _ h => ?_)
        refine J_iload_n (j := 2) hC dX3_multiplies_65 rfl ?_
        refine J_iconst (v := 1) hC dX3_multiplies_66 (by decide) ?_
        refine J_isub hC dX3_multiplies_67 ?_
        refine J_lald hC dX3_multiplies_68 h (fun v20 _ h => ?_)
        refine J_aload_n (j := 0) hC dX3_multiplies_69 rfl ?_
        refine J_g3_1 hC k_X3_7 dX3_multiplies_70 h (fun v21 _ h => ?_)
        refine J_bipush (v := 46) hC dX3_multiplies_73 (by decide) ?_
        refine J_iload_n (j := 1) hC dX3_multiplies_75 rfl ?_
        refine J_iadd hC dX3_multiplies_76 ?_
        refine J_iald hC dX3_multiplies_77 h (fun v22 _ h => ?_)
        refine J_i2l hC dX3_multiplies_78 ?_
        refine J_aload_n (j := 0) hC dX3_multiplies_79 rfl ?_
        refine J_g3_11 hC k_X3_32 dX3_multiplies_80 h (fun v23 _ h => ?_)
        refine J_iload_n (j := 2) hC dX3_multiplies_83 rfl ?_
        refine J_lald hC dX3_multiplies_84 h (fun v24 _ h => ?_)
        refine J_lmul hC dX3_multiplies_85 ?_
        refine J_lsub hC dX3_multiplies_86 ?_
        refine J_last hC dX3_multiplies_87 h (fun M25 _ h => ?_)
        refine J_inc (j := 2) (k := (-1)) (lv' := [(2, .int (x2 + (-1))), (0, rf x0), (1, .int x1)]) hC dX3_multiplies_88 (by decide) rfl (by decide) rfl ?_
        refine J_goto (tgt := 44) hC dX3_multiplies_91 (by decide) ?_
        refine J_sub [1, 2, 0] rfl ?_
        exact ih M25 (x2 + (-1)) h
      · have h := ite_t c13 h
        refine J_lconst (v := 0) hC dX3_multiplies_57 (by decide) ?_
        refine J_goto (tgt := 69) hC dX3_multiplies_58 (by decide) ?_
        refine J_aload_n (j := 0) hC dX3_multiplies_69 rfl ?_
        refine J_g3_1 hC k_X3_7 dX3_multiplies_70 h (fun v14 _ h => ?_)
        refine J_bipush (v := 46) hC dX3_multiplies_73 (by decide) ?_
        refine J_iload_n (j := 1) hC dX3_multiplies_75 rfl ?_
        refine J_iadd hC dX3_multiplies_76 ?_
        refine J_iald hC dX3_multiplies_77 h (fun v15 _ h => ?_)
        refine J_i2l hC dX3_multiplies_78 ?_
        refine J_aload_n (j := 0) hC dX3_multiplies_79 rfl ?_
        refine J_g3_11 hC k_X3_32 dX3_multiplies_80 h (fun v16 _ h => ?_)
        refine J_iload_n (j := 2) hC dX3_multiplies_83 rfl ?_
        refine J_lald hC dX3_multiplies_84 h (fun v17 _ h => ?_)
        refine J_lmul hC dX3_multiplies_85 ?_
        refine J_lsub hC dX3_multiplies_86 ?_
        refine J_last hC dX3_multiplies_87 h (fun M18 _ h => ?_)
        refine J_inc (j := 2) (k := (-1)) (lv' := [(2, .int (x2 + (-1))), (0, rf x0), (1, .int x1)]) hC dX3_multiplies_88 (by decide) rfl (by decide) rfl ?_
        refine J_goto (tgt := 44) hC dX3_multiplies_91 (by decide) ?_
        refine J_sub [1, 2, 0] rfl ?_
        exact ih M18 (x2 + (-1)) h
set_option maxHeartbeats 4000000 in
set_option maxRecDepth 100000 in
theorem tX3_multiplies_30 {C : JC} {r0 : Mem} (x0 : Option Nat) (hC : Ok C false cX3_multiplies 3 rm_X3_multiplies none RX3 (r0, Sum.inr none))  (k100 : Mem → Int32 → Option (Mem)) (hk100 : ∀ (M : Mem) (x1 : Int32), k100 M x1 = some r0 → J C 0 0 M 100 [(0, rf x0), (1, .int x1)] []) : ∀ (n : Nat) (M : Mem) (x1 : Int32), fX3_multiplies_30 x0 k100 n M x1 = some r0 → J C 0 0 M 30 [(0, rf x0), (1, .int x1)] [] := by
  intro n
  induction n with
  | zero => intro M x1 h; have h : none = some r0 := h; cases h
  | succ n ih =>
    intro M x1 h
    rw [fX3_multiplies_30] at h
    refine J_iload_n (j := 1) hC dX3_multiplies_30 rfl ?_
    refine J_aload_n (j := 0) hC dX3_multiplies_31 rfl ?_
    refine J_g3_1 hC k_X3_7 dX3_multiplies_32 h (fun v8 _ h => ?_)
    refine J_bipush (v := 45) hC dX3_multiplies_35 (by decide) ?_
    refine J_iald hC dX3_multiplies_37 h (fun v9 _ h => ?_)
    refine J_icmp_ge (tgt := 100) hC dX3_multiplies_38 (by decide) (fun c10 => ?_) (fun c10 => ?_)
    · have h := ite_t c10 h
      refine J_sub [0, 1] rfl ?_
      exact hk100 M x1 h
    · have h := ite_f c10 h
      refine J_bipush (v := 8) hC dX3_multiplies_41 (by decide) ?_
      refine J_istore_n (i := 2) (lv' := [(2, .int 8), (0, rf x0), (1, .int x1)]) rfl hC dX3_multiplies_43 (by decide) rfl ?_
      refine J_sub [1, 2, 0] rfl ?_
      refine tX3_multiplies_44 x0 x1 hC _ (fun M26 x27 h => ?_) FU M 8 h
      · refine J_inc (j := 1) (k := 1) (lv' := [(1, .int (x1 + 1)), (0, rf x0), (2, .int x27)]) hC dX3_multiplies_94 (by decide) rfl (by decide) rfl ?_
        refine J_goto (tgt := 30) hC dX3_multiplies_97 (by decide) ?_
        refine J_sub [1, 0] rfl ?_
        exact ih M26 (x1 + 1) h
set_option maxHeartbeats 4000000 in
set_option maxRecDepth 100000 in
theorem cX3_multiplies_ok (M : Mem) (a0 : Option Nat) (r0 : Mem) (h : fX3_multiplies M a0 = some r0) : ∀ l : Launch, l.stackTraces = false → Con false l yX3_multiplies cX3_multiplies 3 none rm_X3_multiplies [rf a0] M (r0, Sum.inr none) := by
  intro l hst
  refine Con.enter hst (own := RX3) (by decide +kernel) rfl (by exact Nat.le_of_ble_eq_true rfl) (lv0 := [(0, rf a0)]) (rfl) (fun C hC hin => ?_)
  unfold fX3_multiplies at h
  refine J_iconst (v := 0) hC dX3_multiplies_0 (by decide) ?_
  refine J_istore_n (i := 1) (lv' := [(1, .int 0), (0, rf a0)]) rfl hC dX3_multiplies_1 (by decide) rfl ?_
  refine J_sub [1, 0] rfl ?_
  refine tX3_multiplies_2 a0 hC _ (fun M4 x5 h => ?_) FU M 0 h
  · refine J_aload_n (j := 0) hC dX3_multiplies_21 rfl ?_
    refine J_g3_11 hC k_X3_32 dX3_multiplies_22 h (fun v6 _ h => ?_)
    refine J_iconst (v := 0) hC dX3_multiplies_25 (by decide) ?_
    refine J_lconst (v := 1) hC dX3_multiplies_26 (by decide) ?_
    refine J_last hC dX3_multiplies_27 h (fun M7 _ h => ?_)
    refine J_iconst (v := 0) hC dX3_multiplies_28 (by decide) ?_
    refine J_istore_n (i := 1) (lv' := [(1, .int 0), (0, rf a0)]) rfl hC dX3_multiplies_29 (by decide) rfl ?_
    refine J_sub [1, 0] rfl ?_
    refine tX3_multiplies_30 a0 hC _ (fun M28 x29 h => ?_) FU M7 0 h
    · exact J_vret hC dX3_multiplies_100 (by have h9 := Option.some.inj h; subst h9; rfl) (Nat.le_of_ble_eq_true rfl) (Nat.le_of_ble_eq_true rfl)
abbrev rm_X3_lower : Room := { frames := 2, cells := 0, slots := 0, locals := 45 }

set_option maxHeartbeats 4000000 in
set_option maxRecDepth 100000 in
theorem tX3_lower_28 {C : JC} {r0 : Mem × Int32} (x0 : Option Nat) (x1 : Int32) (hC : Ok C false cX3_lower 3 rm_X3_lower (some .int) RX3 (r0.1, Sum.inr (some (Value.int r0.2))))  (k84 : Mem → Int32 → Option (Mem × Int32)) (hk84 : ∀ (M : Mem) (x2 : Int32), k84 M x2 = some r0 → J C 0 0 M 84 [(0, rf x0), (1, .int x1), (2, .int x2)] []) : ∀ (n : Nat) (M : Mem) (x2 : Int32), fX3_lower_28 x0 x1 k84 n M x2 = some r0 → J C 0 0 M 28 [(0, rf x0), (1, .int x1), (2, .int x2)] [] := by
  intro n
  induction n with
  | zero => intro M x2 h; have h : none = some r0 := h; cases h
  | succ n ih =>
    intro M x2 h
    rw [fX3_lower_28] at h
    refine J_iload_n (j := 2) hC dX3_lower_28 rfl ?_
    refine J_bipush (v := 9) hC dX3_lower_29 (by decide) ?_
    refine J_icmp_ge (tgt := 84) hC dX3_lower_31 (by decide) (fun c7 => ?_) (fun c7 => ?_)
    · have h := ite_t c7 h
      refine J_sub [0, 1, 2] rfl ?_
      exact hk84 M x2 h
    · have h := ite_f c7 h
      refine J_aload_n (j := 0) hC dX3_lower_34 rfl ?_
      refine J_g3_1 hC k_X3_7 dX3_lower_35 h (fun v8 _ h => ?_)
      refine J_iconst (v := 0) hC dX3_lower_38 (by decide) ?_
      refine J_bipush (v := 9) hC dX3_lower_39 (by decide) ?_
      refine J_iload_n (j := 1) hC dX3_lower_41 rfl ?_
      refine J_imul hC dX3_lower_42 ?_
      refine J_iadd hC dX3_lower_43 ?_
      refine J_iload_n (j := 2) hC dX3_lower_44 rfl ?_
      refine J_iadd hC dX3_lower_45 ?_
      refine J_aload_n (j := 0) hC dX3_lower_46 rfl ?_
      refine J_g3_11 hC k_X3_32 dX3_lower_47 h (fun v9 _ h => ?_)
      refine J_iload_n (j := 2) hC dX3_lower_50 rfl ?_
      refine J_lald hC dX3_lower_51 h (fun v10 _ h => ?_)
      refine J_lconst (v := 0) hC dX3_lower_52 (by decide) ?_
      refine J_lcmp hC dX3_lower_53 ?_
      refine J_if_le (tgt := 61) hC dX3_lower_54 (by decide) (fun c11 => ?_) (fun c11 => ?_)
      · have h := ite_t c11 h
        refine J_aload_n (j := 0) hC dX3_lower_61 rfl ?_
        refine J_g3_11 hC k_X3_32 dX3_lower_62 h (fun v12 _ h => ?_)
        refine J_iload_n (j := 2) hC dX3_lower_65 rfl ?_
        refine J_lald hC dX3_lower_66 h (fun v13 _ h => ?_)
        refine J_lconst (v := 0) hC dX3_lower_67 (by decide) ?_
        refine J_lcmp hC dX3_lower_68 ?_
        have hj : ∀ (z15 : Int32), z15 = (if 0 ≤ (lg_cmp v13 0) then 0 else (-1)) → J C 0 0 M 77 [(0, rf x0), (1, .int x1), (2, .int x2)] [.int z15, .int ((0 + (9 * x1)) + x2), rf v8] := by
          intro z15 ez15
          subst ez15
          refine J_iast hC dX3_lower_77 h (fun M14 _ h => ?_)
          refine J_inc (j := 2) (k := 1) (lv' := [(2, .int (x2 + 1)), (0, rf x0), (1, .int x1)]) hC dX3_lower_78 (by decide) rfl (by decide) rfl ?_
          refine J_goto (tgt := 28) hC dX3_lower_81 (by decide) ?_
          refine J_sub [1, 2, 0] rfl ?_
          exact ih M14 (x2 + 1) h
        refine J_if_ge (tgt := 76) hC dX3_lower_69 (by decide) (fun c16 => ?_) (fun c16 => ?_)
        · refine J_iconst (v := 0) hC dX3_lower_76 (by decide) ?_
          refine J_sub [0, 1, 2] rfl ?_
          exact hj _ (if_pos c16).symm
        · refine J_iconst (v := (-1)) hC dX3_lower_72 (by decide) ?_
          refine J_goto (tgt := 77) hC dX3_lower_73 (by decide) ?_
          refine J_sub [0, 1, 2] rfl ?_
          exact hj _ (if_neg c16).symm
      · have h := ite_f c11 h
        refine J_iconst (v := 1) hC dX3_lower_57 (by decide) ?_
        refine J_goto (tgt := 77) hC dX3_lower_58 (by decide) ?_
        refine J_iast hC dX3_lower_77 h (fun M17 _ h => ?_)
        refine J_inc (j := 2) (k := 1) (lv' := [(2, .int (x2 + 1)), (0, rf x0), (1, .int x1)]) hC dX3_lower_78 (by decide) rfl (by decide) rfl ?_
        refine J_goto (tgt := 28) hC dX3_lower_81 (by decide) ?_
        refine J_sub [1, 2, 0] rfl ?_
        exact ih M17 (x2 + 1) h
set_option maxHeartbeats 4000000 in
set_option maxRecDepth 100000 in
theorem cX3_lower_ok (M : Mem) (a0 : Option Nat) (a1 : Int32) (r0 : Mem × Int32) (h : fX3_lower M a0 a1 = some r0) : ∀ l : Launch, l.stackTraces = false → Con false l yX3_lower cX3_lower 3 (some .int) rm_X3_lower [rf a0, .int a1] M (r0.1, Sum.inr (some (Value.int r0.2))) := by
  intro l hst
  refine Con.enter hst (own := RX3) (by decide +kernel) rfl (by exact Nat.le_of_ble_eq_true rfl) (lv0 := [(0, rf a0), (1, .int a1)]) (rfl) (fun C hC hin => ?_)
  unfold fX3_lower at h
  refine J_aload_n (j := 0) hC dX3_lower_0 rfl ?_
  refine J_iconst (v := 0) hC dX3_lower_1 (by decide) ?_
  refine J_p3_0 hC k_X3_36 dX3_lower_2 h (fun M1 _ h => ?_)
  refine J_iload_n (j := 1) hC dX3_lower_5 rfl ?_
  refine bnd_c h (fun w2 hw h => ?_)
  refine J_callS (As := [.int a1]) (M' := M1) (rv := some (Value.int w2)) (st := []) hC (fun l hl => cX3_isPoly_ok M1 a1 _ hw l hl) sm_X3_isPoly k_X3_75 rfl ⟨Nat.le_of_ble_eq_true rfl, Nat.le_of_ble_eq_true rfl⟩ (Nat.zero_le _) ⟨Nat.le_of_ble_eq_true rfl, Nat.le_of_ble_eq_true rfl⟩ dX3_lower_6 rfl ?_
  refine J_if_ne (tgt := 18) hC dX3_lower_9 (by decide) (fun c3 => ?_) (fun c3 => ?_)
  · have h := ite_f c3 h
    refine J_aload_n (j := 0) hC dX3_lower_18 rfl ?_
    refine ck_c h (fun ho h => ?_)
    refine bnd_c h (fun w5 hw h => ?_)
    refine J_callV (As := []) (M' := w5) (rv := none) (st := []) hC (fun l hl => cX3_saves_ok M1 a0 _ hw l hl) vm_X3_saves k_X3_85 ho ⟨rfl, rfl⟩ rfl ⟨Nat.le_of_ble_eq_true rfl, Nat.le_of_ble_eq_true rfl⟩ (Nat.zero_le _) ⟨Nat.le_of_ble_eq_true rfl, Nat.le_of_ble_eq_true rfl⟩ dX3_lower_19 rfl ?_
    refine J_aload_n (j := 0) hC dX3_lower_22 rfl ?_
    refine ck_c h (fun ho h => ?_)
    refine bnd_c h (fun w6 hw h => ?_)
    refine J_callV (As := []) (M' := w6) (rv := none) (st := []) hC (fun l hl => cX3_multiplies_ok w5 a0 _ hw l hl) vm_X3_multiplies k_X3_94 ho ⟨rfl, rfl⟩ rfl ⟨Nat.le_of_ble_eq_true rfl, Nat.le_of_ble_eq_true rfl⟩ (Nat.zero_le _) ⟨Nat.le_of_ble_eq_true rfl, Nat.le_of_ble_eq_true rfl⟩ dX3_lower_23 rfl ?_
    refine J_iconst (v := 0) hC dX3_lower_26 (by decide) ?_
    refine J_istore_n (i := 2) (lv' := [(2, .int 0), (0, rf a0), (1, .int a1)]) rfl hC dX3_lower_27 (by decide) rfl ?_
    refine J_sub [1, 2, 0] rfl ?_
    refine tX3_lower_28 a0 a1 hC _ (fun M18 x19 h => ?_) FU w6 0 h
    · refine J_aload_n (j := 0) hC dX3_lower_84 rfl ?_
      refine J_iload_n (j := 1) hC dX3_lower_85 rfl ?_
      refine ck_c h (fun ho h => ?_)
      refine bnd_c h (fun w20 hw h => ?_)
      refine J_callV (As := [.int a1]) (M' := M18) (rv := some (Value.int w20)) (st := []) hC (fun l hl => cX3_degree_ok M18 a0 a1 _ hw l hl) vm_X3_degree k_X3_51 ho ⟨rfl, rfl⟩ rfl ⟨Nat.le_of_ble_eq_true rfl, Nat.le_of_ble_eq_true rfl⟩ (Nat.zero_le _) ⟨Nat.le_of_ble_eq_true rfl, Nat.le_of_ble_eq_true rfl⟩ dX3_lower_86 rfl ?_
      exact J_iret hC dX3_lower_89 (by have h9 := Option.some.inj h; subst h9; rfl) (Nat.le_of_ble_eq_true rfl) (Nat.le_of_ble_eq_true rfl)
  · have h := ite_t c3 h
    refine J_aload_n (j := 0) hC dX3_lower_12 rfl ?_
    refine J_iconst (v := 1) hC dX3_lower_13 (by decide) ?_
    refine ck_c h (fun ho h => ?_)
    refine bnd_c h (fun w4 hw h => ?_)
    refine J_callV (As := [.int 1]) (M' := w4.1) (rv := some (Value.int w4.2)) (st := []) hC (fun l hl => cX3_fails_ok M1 a0 1 _ hw l hl) vm_X3_fails k_X3_79 ho ⟨rfl, rfl⟩ rfl ⟨Nat.le_of_ble_eq_true rfl, Nat.le_of_ble_eq_true rfl⟩ (Nat.zero_le _) ⟨Nat.le_of_ble_eq_true rfl, Nat.le_of_ble_eq_true rfl⟩ dX3_lower_14 rfl ?_
    exact J_iret hC dX3_lower_17 (by have h9 := Option.some.inj h; subst h9; rfl) (Nat.le_of_ble_eq_true rfl) (Nat.le_of_ble_eq_true rfl)
abbrev rm_X3_append : Room := { frames := 1, cells := 0, slots := 0, locals := 22 }

set_option maxHeartbeats 4000000 in
set_option maxRecDepth 100000 in
theorem cX3_append_ok (M : Mem) (a0 : Option Nat) (a1 : Int32) (r0 : Mem × Int32) (h : fX3_append M a0 a1 = some r0) : ∀ l : Launch, l.stackTraces = false → Con false l yX3_append cX3_append 2 (some .int) rm_X3_append [rf a0, .int a1] M (r0.1, Sum.inr (some (Value.int r0.2))) := by
  intro l hst
  refine Con.enter hst (own := RX3) (by decide +kernel) rfl (by exact Nat.le_of_ble_eq_true rfl) (lv0 := [(0, rf a0), (1, .int a1)]) (rfl) (fun C hC hin => ?_)
  unfold fX3_append at h
  refine J_aload_n (j := 0) hC dX3_append_0 rfl ?_
  refine J_iconst (v := 0) hC dX3_append_1 (by decide) ?_
  refine J_p3_0 hC k_X3_36 dX3_append_2 h (fun M1 _ h => ?_)
  refine J_iload_n (j := 1) hC dX3_append_5 rfl ?_
  refine J_bipush (v := 33) hC dX3_append_6 (by decide) ?_
  refine J_bipush (v := 126) hC dX3_append_8 (by decide) ?_
  refine bnd_c h (fun w2 hw h => ?_)
  refine J_callS (As := [.int a1, .int 33, .int 126]) (M' := M1) (rv := some (Value.int w2)) (st := []) hC (fun l hl => cX3_in_ok M1 a1 33 126 _ hw l hl) sm_X3_in k_X3_40 rfl ⟨Nat.le_of_ble_eq_true rfl, Nat.le_of_ble_eq_true rfl⟩ (Nat.zero_le _) ⟨Nat.le_of_ble_eq_true rfl, Nat.le_of_ble_eq_true rfl⟩ dX3_append_10 rfl ?_
  refine J_if_ne (tgt := 22) hC dX3_append_13 (by decide) (fun c3 => ?_) (fun c3 => ?_)
  · have h := ite_f c3 h
    refine J_aload_n (j := 0) hC dX3_append_22 rfl ?_
    refine J_g3_7 hC k_X3_97 dX3_append_23 h (fun v5 _ h => ?_)
    refine J_bipush (v := 60) hC dX3_append_26 (by decide) ?_
    refine J_icmp_ne (tgt := 37) hC dX3_append_28 (by decide) (fun c6 => ?_) (fun c6 => ?_)
    · have h := ite_f c6 h
      refine J_aload_n (j := 0) hC dX3_append_37 rfl ?_
      refine J_g3_6 hC k_X3_23 dX3_append_38 h (fun v8 _ h => ?_)
      refine J_aload_n (j := 0) hC dX3_append_41 rfl ?_
      refine J_g3_7 hC k_X3_97 dX3_append_42 h (fun v9 _ h => ?_)
      refine J_iload_n (j := 1) hC dX3_append_45 rfl ?_
      refine J_iast hC dX3_append_46 h (fun M10 _ h => ?_)
      refine J_aload_n (j := 0) hC dX3_append_47 rfl ?_
      refine J_dup hC dX3_append_48 rfl ?_
      refine J_g3_7 hC k_X3_97 dX3_append_49 h (fun v11 _ h => ?_)
      refine J_iconst (v := 1) hC dX3_append_52 (by decide) ?_
      refine J_iadd hC dX3_append_53 ?_
      refine J_p3_7 hC k_X3_97 dX3_append_54 h (fun M12 _ h => ?_)
      refine J_aload_n (j := 0) hC dX3_append_57 rfl ?_
      refine J_g3_7 hC k_X3_97 dX3_append_58 h (fun v13 _ h => ?_)
      exact J_iret hC dX3_append_61 (by have h9 := Option.some.inj h; subst h9; rfl) (Nat.le_of_ble_eq_true rfl) (Nat.le_of_ble_eq_true rfl)
    · have h := ite_t c6 h
      refine J_aload_n (j := 0) hC dX3_append_31 rfl ?_
      refine J_iconst (v := 2) hC dX3_append_32 (by decide) ?_
      refine ck_c h (fun ho h => ?_)
      refine bnd_c h (fun w7 hw h => ?_)
      refine J_callV (As := [.int 2]) (M' := w7.1) (rv := some (Value.int w7.2)) (st := []) hC (fun l hl => cX3_fails_ok M1 a0 2 _ hw l hl) vm_X3_fails k_X3_79 ho ⟨rfl, rfl⟩ rfl ⟨Nat.le_of_ble_eq_true rfl, Nat.le_of_ble_eq_true rfl⟩ (Nat.zero_le _) ⟨Nat.le_of_ble_eq_true rfl, Nat.le_of_ble_eq_true rfl⟩ dX3_append_33 rfl ?_
      exact J_iret hC dX3_append_36 (by have h9 := Option.some.inj h; subst h9; rfl) (Nat.le_of_ble_eq_true rfl) (Nat.le_of_ble_eq_true rfl)
  · have h := ite_t c3 h
    refine J_aload_n (j := 0) hC dX3_append_16 rfl ?_
    refine J_iconst (v := 1) hC dX3_append_17 (by decide) ?_
    refine ck_c h (fun ho h => ?_)
    refine bnd_c h (fun w4 hw h => ?_)
    refine J_callV (As := [.int 1]) (M' := w4.1) (rv := some (Value.int w4.2)) (st := []) hC (fun l hl => cX3_fails_ok M1 a0 1 _ hw l hl) vm_X3_fails k_X3_79 ho ⟨rfl, rfl⟩ rfl ⟨Nat.le_of_ble_eq_true rfl, Nat.le_of_ble_eq_true rfl⟩ (Nat.zero_le _) ⟨Nat.le_of_ble_eq_true rfl, Nat.le_of_ble_eq_true rfl⟩ dX3_append_18 rfl ?_
    exact J_iret hC dX3_append_21 (by have h9 := Option.some.inj h; subst h9; rfl) (Nat.le_of_ble_eq_true rfl) (Nat.le_of_ble_eq_true rfl)
abbrev rm_X3_clearBuffer : Room := { frames := 0, cells := 0, slots := 0, locals := 0 }

set_option maxHeartbeats 4000000 in
set_option maxRecDepth 100000 in
theorem cX3_clearBuffer_ok (M : Mem) (a0 : Option Nat) (r0 : Mem × Int32) (h : fX3_clearBuffer M a0 = some r0) : ∀ l : Launch, l.stackTraces = false → Con false l yX3_clearBuffer cX3_clearBuffer 2 (some .int) rm_X3_clearBuffer [rf a0] M (r0.1, Sum.inr (some (Value.int r0.2))) := by
  intro l hst
  refine Con.enter hst (own := RX3) (by decide +kernel) rfl (by exact Nat.le_of_ble_eq_true rfl) (lv0 := [(0, rf a0)]) (rfl) (fun C hC hin => ?_)
  unfold fX3_clearBuffer at h
  refine J_aload_n (j := 0) hC dX3_clearBuffer_0 rfl ?_
  refine J_iconst (v := 0) hC dX3_clearBuffer_1 (by decide) ?_
  refine J_p3_0 hC k_X3_36 dX3_clearBuffer_2 h (fun M1 _ h => ?_)
  refine J_aload_n (j := 0) hC dX3_clearBuffer_5 rfl ?_
  refine J_g3_7 hC k_X3_97 dX3_clearBuffer_6 h (fun v2 _ h => ?_)
  refine J_istore_n (i := 1) (lv' := [(1, .int v2), (0, rf a0)]) rfl hC dX3_clearBuffer_9 (by decide) rfl ?_
  refine J_aload_n (j := 1) hC dX3_clearBuffer_10 rfl ?_
  refine J_iconst (v := 0) hC dX3_clearBuffer_11 (by decide) ?_
  refine J_p3_7 hC k_X3_97 dX3_clearBuffer_12 h (fun M3 _ h => ?_)
  refine J_iload_n (j := 0) hC dX3_clearBuffer_15 rfl ?_
  exact J_iret hC dX3_clearBuffer_16 (by have h9 := Option.some.inj h; subst h9; rfl) (Nat.le_of_ble_eq_true rfl) (Nat.le_of_ble_eq_true rfl)
abbrev rm_X3_error : Room := { frames := 0, cells := 0, slots := 0, locals := 0 }

set_option maxHeartbeats 4000000 in
set_option maxRecDepth 100000 in
theorem tX3_error_4 {C : JC} {r0 : Int32} (M : Mem) (x0 : Option Nat) (hC : Ok C false cX3_error 3 rm_X3_error (some .int) RX3 (M, Sum.inr (some (Value.int r0))))  (k80 : Int32 → Int32 → Option (Int32)) (hk80 : ∀ (x1 : Int32) (x2 : Int32), k80 x1 x2 = some r0 → J C 0 0 M 80 [(0, rf x0), (1, .int x1), (2, .int x2)] []) : ∀ (n : Nat) (x1 : Int32) (x2 : Int32), fX3_error_4 M x0 k80 n x1 x2 = some r0 → J C 0 0 M 4 [(0, rf x0), (1, .int x1), (2, .int x2)] [] := by
  intro n
  induction n with
  | zero => intro x1 x2 h; have h : none = some r0 := h; cases h
  | succ n ih =>
    intro x1 x2 h
    rw [fX3_error_4] at h
    refine J_iload_n (j := 1) hC dX3_error_4 rfl ?_
    refine J_aload_n (j := 0) hC dX3_error_5 rfl ?_
    refine J_g3_7 hC k_X3_97 dX3_error_6 h (fun v1 _ h => ?_)
    refine J_icmp_ge (tgt := 80) hC dX3_error_9 (by decide) (fun c2 => ?_) (fun c2 => ?_)
    · have h := ite_t c2 h
      refine J_sub [0, 1, 2] rfl ?_
      exact hk80 x1 x2 h
    · have h := ite_f c2 h
      refine J_iload_n (j := 2) hC dX3_error_12 rfl ?_
      refine J_if_eq (tgt := 80) hC dX3_error_13 (by decide) (fun c3 => ?_) (fun c3 => ?_)
      · have h := ite_t c3 h
        refine J_sub [0, 1, 2] rfl ?_
        exact hk80 x1 x2 h
      · have h := ite_f c3 h
        refine J_iload_n (j := 1) hC dX3_error_16 rfl ?_
        refine J_bipush (v := 9) hC dX3_error_17 (by decide) ?_
        refine J_icmp_ge (tgt := 63) hC dX3_error_19 (by decide) (fun c4 => ?_) (fun c4 => ?_)
        · have h := ite_t c4 h
          refine J_iconst (v := 0) hC dX3_error_63 (by decide) ?_
          refine J_istore_n (i := 2) (lv' := [(2, .int 0), (0, rf x0), (1, .int x1)]) rfl hC dX3_error_64 (by decide) rfl ?_
          refine J_iload_n (j := 2) hC dX3_error_65 rfl ?_
          refine J_iload_n (j := 0) hC dX3_error_66 rfl ?_
          refine J_if_eq (tgt := 74) hC dX3_error_67 (by decide) (fun _ => ?_) (fun c => absurd (by decide) c)
          refine J_iconst (v := 0) hC dX3_error_74 (by decide) ?_
          refine J_iadd hC dX3_error_75 ?_
          refine J_istore_n (i := 1) (lv' := [(1, .int (x1 + 0)), (2, .int 0), (0, rf x0)]) rfl hC dX3_error_76 (by decide) rfl ?_
          refine J_goto (tgt := 4) hC dX3_error_77 (by decide) ?_
          refine J_sub [2, 0, 1] rfl ?_
          exact ih (x1 + 0) 0 h
        · have h := ite_f c4 h
          refine J_aload_n (j := 0) hC dX3_error_22 rfl ?_
          refine J_g3_6 hC k_X3_23 dX3_error_23 h (fun v5 _ h => ?_)
          refine J_iload_n (j := 1) hC dX3_error_26 rfl ?_
          refine J_iald hC dX3_error_27 h (fun v6 _ h => ?_)
          refine J_bipush (v := 43) hC dX3_error_28 (by decide) ?_
          refine J_icmp_eq (tgt := 59) hC dX3_error_30 (by decide) (fun c7 => ?_) (fun c7 => ?_)
          · have h := ite_t c7 h
            refine J_iconst (v := 1) hC dX3_error_59 (by decide) ?_
            refine J_goto (tgt := 64) hC dX3_error_60 (by decide) ?_
            refine J_istore_n (i := 2) (lv' := [(2, .int 1), (0, rf x0), (1, .int x1)]) rfl hC dX3_error_64 (by decide) rfl ?_
            refine J_iload_n (j := 2) hC dX3_error_65 rfl ?_
            refine J_iload_n (j := 0) hC dX3_error_66 rfl ?_
            refine J_if_eq (tgt := 74) hC dX3_error_67 (by decide) (fun c => absurd c (by decide)) (fun _ => ?_)
            refine J_iconst (v := 1) hC dX3_error_70 (by decide) ?_
            refine J_goto (tgt := 75) hC dX3_error_71 (by decide) ?_
            refine J_iadd hC dX3_error_75 ?_
            refine J_istore_n (i := 1) (lv' := [(1, .int (x1 + 1)), (2, .int 1), (0, rf x0)]) rfl hC dX3_error_76 (by decide) rfl ?_
            refine J_goto (tgt := 4) hC dX3_error_77 (by decide) ?_
            refine J_sub [2, 0, 1] rfl ?_
            exact ih (x1 + 1) 1 h
          · have h := ite_f c7 h
            refine J_aload_n (j := 0) hC dX3_error_33 rfl ?_
            refine J_g3_6 hC k_X3_23 dX3_error_34 h (fun v8 _ h => ?_)
            refine J_iload_n (j := 1) hC dX3_error_37 rfl ?_
            refine J_iald hC dX3_error_38 h (fun v9 _ h => ?_)
            refine J_bipush (v := 45) hC dX3_error_39 (by decide) ?_
            refine J_icmp_eq (tgt := 59) hC dX3_error_41 (by decide) (fun c10 => ?_) (fun c10 => ?_)
            · have h := ite_t c10 h
              refine J_iconst (v := 1) hC dX3_error_59 (by decide) ?_
              refine J_goto (tgt := 64) hC dX3_error_60 (by decide) ?_
              refine J_istore_n (i := 2) (lv' := [(2, .int 1), (0, rf x0), (1, .int x1)]) rfl hC dX3_error_64 (by decide) rfl ?_
              refine J_iload_n (j := 2) hC dX3_error_65 rfl ?_
              refine J_iload_n (j := 0) hC dX3_error_66 rfl ?_
              refine J_if_eq (tgt := 74) hC dX3_error_67 (by decide) (fun c => absurd c (by decide)) (fun _ => ?_)
              refine J_iconst (v := 1) hC dX3_error_70 (by decide) ?_
              refine J_goto (tgt := 75) hC dX3_error_71 (by decide) ?_
              refine J_iadd hC dX3_error_75 ?_
              refine J_istore_n (i := 1) (lv' := [(1, .int (x1 + 1)), (2, .int 1), (0, rf x0)]) rfl hC dX3_error_76 (by decide) rfl ?_
              refine J_goto (tgt := 4) hC dX3_error_77 (by decide) ?_
              refine J_sub [2, 0, 1] rfl ?_
              exact ih (x1 + 1) 1 h
            · have h := ite_f c10 h
              refine J_aload_n (j := 0) hC dX3_error_44 rfl ?_
              refine J_g3_6 hC k_X3_23 dX3_error_45 h (fun v11 _ h => ?_)
              refine J_iload_n (j := 1) hC dX3_error_48 rfl ?_
              refine J_iald hC dX3_error_49 h (fun v12 _ h => ?_)
              refine J_bipush (v := 48) hC dX3_error_50 (by decide) ?_
              have hj : ∀ (z15 : Int32), z15 = (if v12 = 48 then (if x1 ≤ 0 then 0 else 1) else 0) → J C 0 0 M 64 [(0, rf x0), (1, .int x1), (2, .int x2)] [.int z15] := by
                intro z15 ez15
                subst ez15
                refine J_istore_n (i := 2) (lv' := [(2, .int (if v12 = 48 then (if x1 ≤ 0 then 0 else 1) else 0)), (0, rf x0), (1, .int x1)]) rfl hC dX3_error_64 (by decide) rfl ?_
                refine J_iload_n (j := 2) hC dX3_error_65 rfl ?_
                refine J_iload_n (j := 0) hC dX3_error_66 rfl ?_
                have hj : ∀ (z13 : Int32), z13 = (if ((if v12 = 48 then (if x1 ≤ 0 then 0 else 1) else 0) : Int32) = 0 then 0 else 1) → J C 0 0 M 75 [(2, .int (if v12 = 48 then (if x1 ≤ 0 then 0 else 1) else 0)), (0, rf x0), (1, .int x1)] [.int z13, .int x1] := by
                  intro z13 ez13
                  subst ez13
                  refine J_iadd hC dX3_error_75 ?_
                  refine J_istore_n (i := 1) (lv' := [(1, .int (x1 + (if ((if v12 = 48 then (if x1 ≤ 0 then 0 else 1) else 0) : Int32) = 0 then 0 else 1))), (2, .int (if v12 = 48 then (if x1 ≤ 0 then 0 else 1) else 0)), (0, rf x0)]) rfl hC dX3_error_76 (by decide) rfl ?_
                  refine J_goto (tgt := 4) hC dX3_error_77 (by decide) ?_
                  refine J_sub [2, 0, 1] rfl ?_
                  exact ih (x1 + (if ((if v12 = 48 then (if x1 ≤ 0 then 0 else 1) else 0) : Int32) = 0 then 0 else 1)) (if v12 = 48 then (if x1 ≤ 0 then 0 else 1) else 0) h
                refine J_if_eq (tgt := 74) hC dX3_error_67 (by decide) (fun c14 => ?_) (fun c14 => ?_)
                · refine J_iconst (v := 0) hC dX3_error_74 (by decide) ?_
                  refine J_sub [0, 1, 2] rfl ?_
                  exact hj _ (if_pos c14).symm
                · refine J_iconst (v := 1) hC dX3_error_70 (by decide) ?_
                  refine J_goto (tgt := 75) hC dX3_error_71 (by decide) ?_
                  refine J_sub [0, 1, 2] rfl ?_
                  exact hj _ (if_neg c14).symm
              refine J_icmp_ne (tgt := 63) hC dX3_error_52 (by decide) (fun c16 => ?_) (fun c16 => ?_)
              · refine J_iconst (v := 0) hC dX3_error_63 (by decide) ?_
                refine J_sub [0, 1, 2] rfl ?_
                exact hj _ (if_neg c16).symm
              · refine J_iload_n (j := 1) hC dX3_error_55 rfl ?_
                refine J_if_le (tgt := 63) hC dX3_error_56 (by decide) (fun c17 => ?_) (fun c17 => ?_)
                · refine J_iconst (v := 0) hC dX3_error_63 (by decide) ?_
                  refine J_sub [0, 1, 2] rfl ?_
                  exact hj _ ((if_pos c16).trans (if_pos c17)).symm
                · refine J_iconst (v := 1) hC dX3_error_59 (by decide) ?_
                  refine J_goto (tgt := 64) hC dX3_error_60 (by decide) ?_
                  refine J_sub [0, 1, 2] rfl ?_
                  exact hj _ ((if_pos c16).trans (if_neg c17)).symm
set_option maxHeartbeats 4000000 in
set_option maxRecDepth 100000 in
theorem cX3_error_ok (M : Mem) (a0 : Option Nat) (r0 : Int32) (h : fX3_error M a0 = some r0) : ∀ l : Launch, l.stackTraces = false → Con false l yX3_error cX3_error 3 (some .int) rm_X3_error [rf a0] M (M, Sum.inr (some (Value.int r0))) := by
  intro l hst
  refine Con.enter hst (own := RX3) (by decide +kernel) rfl (by exact Nat.le_of_ble_eq_true rfl) (lv0 := [(0, rf a0)]) (rfl) (fun C hC hin => ?_)
  unfold fX3_error at h
  refine J_iconst (v := 0) hC dX3_error_0 (by decide) ?_
  refine J_istore_n (i := 1) (lv' := [(1, .int 0), (0, rf a0)]) rfl hC dX3_error_1 (by decide) rfl ?_
  refine J_iconst (v := 1) hC dX3_error_2 (by decide) ?_
  refine J_istore_n (i := 2) (lv' := [(2, .int 1), (1, .int 0), (0, rf a0)]) rfl hC dX3_error_3 (by decide) rfl ?_
  refine J_sub [2, 1, 0] rfl ?_
  refine tX3_error_4 M a0 hC _ (fun x18 x19 h => ?_) FU 0 1 h
  · refine J_iload_n (j := 1) hC dX3_error_80 rfl ?_
    exact J_iret hC dX3_error_81 (by have h9 := Option.some.inj h; subst h9; rfl) (Nat.le_of_ble_eq_true rfl) (Nat.le_of_ble_eq_true rfl)
abbrev rm_X3_firstError : Room := { frames := 1, cells := 0, slots := 0, locals := 22 }

set_option maxHeartbeats 4000000 in
set_option maxRecDepth 100000 in
theorem cX3_firstError_ok (M : Mem) (a0 : Option Nat) (r0 : Mem × Int32) (h : fX3_firstError M a0 = some r0) : ∀ l : Launch, l.stackTraces = false → Con false l yX3_firstError cX3_firstError 1 (some .int) rm_X3_firstError [rf a0] M (r0.1, Sum.inr (some (Value.int r0.2))) := by
  intro l hst
  refine Con.enter hst (own := RX3) (by decide +kernel) rfl (by exact Nat.le_of_ble_eq_true rfl) (lv0 := [(0, rf a0)]) (rfl) (fun C hC hin => ?_)
  unfold fX3_firstError at h
  refine J_aload_n (j := 0) hC dX3_firstError_0 rfl ?_
  refine J_iconst (v := 0) hC dX3_firstError_1 (by decide) ?_
  refine J_p3_0 hC k_X3_36 dX3_firstError_2 h (fun M1 _ h => ?_)
  refine J_aload_n (j := 0) hC dX3_firstError_5 rfl ?_
  refine ck_c h (fun ho h => ?_)
  refine bnd_c h (fun w2 hw h => ?_)
  refine J_callV (As := []) (M' := M1) (rv := some (Value.int w2)) (st := []) hC (fun l hl => cX3_error_ok M1 a0 _ hw l hl) vm_X3_error k_X3_100 ho ⟨rfl, rfl⟩ rfl ⟨Nat.le_of_ble_eq_true rfl, Nat.le_of_ble_eq_true rfl⟩ (Nat.zero_le _) ⟨Nat.le_of_ble_eq_true rfl, Nat.le_of_ble_eq_true rfl⟩ dX3_firstError_6 rfl ?_
  exact J_iret hC dX3_firstError_9 (by have h9 := Option.some.inj h; subst h9; rfl) (Nat.le_of_ble_eq_true rfl) (Nat.le_of_ble_eq_true rfl)
abbrev rm_X3_load : Room := { frames := 2, cells := 0, slots := 0, locals := 45 }

set_option maxHeartbeats 4000000 in
set_option maxRecDepth 100000 in
theorem tX3_load_48 {C : JC} {r0 : Mem × Int32} (x0 : Option Nat) (x1 : Int32) (hC : Ok C false cX3_load 4 rm_X3_load (some .int) RX3 (r0.1, Sum.inr (some (Value.int r0.2))))  (k121 : Mem → Int32 → Option (Mem × Int32)) (hk121 : ∀ (M : Mem) (x2 : Int32), k121 M x2 = some r0 → J C 0 0 M 121 [(0, rf x0), (1, .int x1), (2, .int x2)] []) : ∀ (n : Nat) (M : Mem) (x2 : Int32), fX3_load_48 x0 x1 k121 n M x2 = some r0 → J C 0 0 M 48 [(0, rf x0), (1, .int x1), (2, .int x2)] [] := by
  intro n
  induction n with
  | zero => intro M x2 h; have h : none = some r0 := h; cases h
  | succ n ih =>
    intro M x2 h
    rw [fX3_load_48] at h
    refine J_iload_n (j := 2) hC dX3_load_48 rfl ?_
    refine J_bipush (v := 9) hC dX3_load_49 (by decide) ?_
    refine J_icmp_ge (tgt := 121) hC dX3_load_51 (by decide) (fun c12 => ?_) (fun c12 => ?_)
    · have h := ite_t c12 h
      refine J_sub [0, 1, 2] rfl ?_
      exact hk121 M x2 h
    · have h := ite_f c12 h
      refine J_iload_n (j := 2) hC dX3_load_54 rfl ?_
      refine J_aload_n (j := 0) hC dX3_load_55 rfl ?_
      refine J_g3_7 hC k_X3_97 dX3_load_56 h (fun v13 _ h => ?_)
      refine J_icmp_ge (tgt := 78) hC dX3_load_59 (by decide) (fun c14 => ?_) (fun c14 => ?_)
      · have h := ite_t c14 h
        refine J_bipush (v := 48) hC dX3_load_78 (by decide) ?_
        refine J_istore_n (i := 3) (lv' := [(3, .int 48), (0, rf x0), (1, .int x1), (2, .int x2)]) rfl hC dX3_load_80 (by decide) rfl ?_
        refine J_aload_n (j := 1) hC dX3_load_81 rfl ?_
        refine J_g3_1 hC k_X3_7 dX3_load_82 h (fun v15 _ h => ?_)
        refine J_iconst (v := 0) hC dX3_load_85 (by decide) ?_
        refine J_bipush (v := 9) hC dX3_load_86 (by decide) ?_
        refine J_iload_n (j := 2) hC dX3_load_88 rfl ?_
        refine J_imul hC dX3_load_89 ?_
        refine J_iadd hC dX3_load_90 ?_
        refine J_iload_n (j := 3) hC dX3_load_91 rfl ?_
        refine J_iadd hC dX3_load_92 ?_
        refine J_iload_n (j := 0) hC dX3_load_93 rfl ?_
        refine J_bipush (v := 43) hC dX3_load_94 (by decide) ?_
        refine J_icmp_ne (tgt := 103) hC dX3_load_96 (by decide) (fun _ => ?_) (fun c => absurd c (by decide))
        refine J_iload_n (j := 0) hC dX3_load_103 rfl ?_
        refine J_bipush (v := 45) hC dX3_load_104 (by decide) ?_
        refine J_icmp_ne (tgt := 113) hC dX3_load_106 (by decide) (fun _ => ?_) (fun c => absurd c (by decide))
        refine J_iconst (v := 0) hC dX3_load_113 (by decide) ?_
        refine J_iast hC dX3_load_114 h (fun M16 _ h => ?_)
        refine J_inc (j := 3) (k := 1) (lv' := [(2, .int (x2 + 1)), (3, .int 48), (0, rf x0), (1, .int x1)]) hC dX3_load_115 (by decide) rfl (by decide) rfl ?_
        refine J_goto (tgt := 48) hC dX3_load_118 (by decide) ?_
        refine J_sub [2, 3, 0] rfl ?_
        exact ih M16 (x2 + 1) h
      · have h := ite_f c14 h
        refine J_aload_n (j := 0) hC dX3_load_62 rfl ?_
        refine J_g3_6 hC k_X3_23 dX3_load_63 h (fun v17 _ h => ?_)
        refine J_aload_n (j := 0) hC dX3_load_66 rfl ?_
        refine J_g3_7 hC k_X3_97 dX3_load_67 h (fun v18 _ h => ?_)
        refine J_iconst (v := 1) hC dX3_load_70 (by decide) ?_
        refine J_isub hC dX3_load_71 ?_
        refine J_iload_n (j := 2) hC dX3_load_72 rfl ?_
        refine J_isub hC dX3_load_73 ?_
        refine J_iald hC dX3_load_74 h (fun v19 _ h => ?_)
        refine J_goto (tgt := 80) hC dX3_load_75 (by decide) ?_
        refine J_istore_n (i := 3) (lv' := [(3, .int v19), (0, rf x0), (1, .int x1), (2, .int x2)]) rfl hC dX3_load_80 (by decide) rfl ?_
        refine J_aload_n (j := 1) hC dX3_load_81 rfl ?_
        refine J_g3_1 hC k_X3_7 dX3_load_82 h (fun v20 _ h => ?_)
        refine J_iconst (v := 0) hC dX3_load_85 (by decide) ?_
        refine J_bipush (v := 9) hC dX3_load_86 (by decide) ?_
        refine J_iload_n (j := 2) hC dX3_load_88 rfl ?_
        refine J_imul hC dX3_load_89 ?_
        refine J_iadd hC dX3_load_90 ?_
        refine J_iload_n (j := 3) hC dX3_load_91 rfl ?_
        refine J_iadd hC dX3_load_92 ?_
        refine J_iload_n (j := 0) hC dX3_load_93 rfl ?_
        refine J_bipush (v := 43) hC dX3_load_94 (by decide) ?_
        have hj : ∀ (z22 : Int32), z22 = (if v19 = 43 then 1 else (if v19 = 45 then (-1) else 0)) → J C 0 0 M 114 [(3, .int v19), (0, rf x0), (1, .int x1), (2, .int x2)] [.int z22, .int ((0 + (9 * x1)) + x2), rf v20] := by
          intro z22 ez22
          subst ez22
          refine J_iast hC dX3_load_114 h (fun M21 _ h => ?_)
          refine J_inc (j := 3) (k := 1) (lv' := [(2, .int (x2 + 1)), (3, .int v19), (0, rf x0), (1, .int x1)]) hC dX3_load_115 (by decide) rfl (by decide) rfl ?_
          refine J_goto (tgt := 48) hC dX3_load_118 (by decide) ?_
          refine J_sub [2, 3, 0] rfl ?_
          exact ih M21 (x2 + 1) h
        refine J_icmp_ne (tgt := 103) hC dX3_load_96 (by decide) (fun c23 => ?_) (fun c23 => ?_)
        · refine J_iload_n (j := 0) hC dX3_load_103 rfl ?_
          refine J_bipush (v := 45) hC dX3_load_104 (by decide) ?_
          refine J_icmp_ne (tgt := 113) hC dX3_load_106 (by decide) (fun c24 => ?_) (fun c24 => ?_)
          · refine J_iconst (v := 0) hC dX3_load_113 (by decide) ?_
            refine J_sub [0, 1, 2, 3] rfl ?_
            exact hj _ ((if_neg c23).trans (if_neg c24)).symm
          · refine J_iconst (v := (-1)) hC dX3_load_109 (by decide) ?_
            refine J_goto (tgt := 114) hC dX3_load_110 (by decide) ?_
            refine J_sub [0, 1, 2, 3] rfl ?_
            exact hj _ ((if_neg c23).trans (if_pos c24)).symm
        · refine J_iconst (v := 1) hC dX3_load_99 (by decide) ?_
          refine J_goto (tgt := 114) hC dX3_load_100 (by decide) ?_
          refine J_sub [0, 1, 2, 3] rfl ?_
          exact hj _ (if_pos c23).symm
set_option maxHeartbeats 4000000 in
set_option maxRecDepth 100000 in
theorem cX3_load_ok (M : Mem) (a0 : Option Nat) (a1 : Int32) (r0 : Mem × Int32) (h : fX3_load M a0 a1 = some r0) : ∀ l : Launch, l.stackTraces = false → Con false l yX3_load cX3_load 4 (some .int) rm_X3_load [rf a0, .int a1] M (r0.1, Sum.inr (some (Value.int r0.2))) := by
  intro l hst
  refine Con.enter hst (own := RX3) (by decide +kernel) rfl (by exact Nat.le_of_ble_eq_true rfl) (lv0 := [(0, rf a0), (1, .int a1)]) (rfl) (fun C hC hin => ?_)
  unfold fX3_load at h
  refine J_aload_n (j := 0) hC dX3_load_0 rfl ?_
  refine J_iconst (v := 0) hC dX3_load_1 (by decide) ?_
  refine J_p3_0 hC k_X3_36 dX3_load_2 h (fun M1 _ h => ?_)
  refine J_iload_n (j := 1) hC dX3_load_5 rfl ?_
  refine bnd_c h (fun w2 hw h => ?_)
  refine J_callS (As := [.int a1]) (M' := M1) (rv := some (Value.int w2)) (st := []) hC (fun l hl => cX3_isPoly_ok M1 a1 _ hw l hl) sm_X3_isPoly k_X3_75 rfl ⟨Nat.le_of_ble_eq_true rfl, Nat.le_of_ble_eq_true rfl⟩ (Nat.zero_le _) ⟨Nat.le_of_ble_eq_true rfl, Nat.le_of_ble_eq_true rfl⟩ dX3_load_6 rfl ?_
  refine J_if_ne (tgt := 18) hC dX3_load_9 (by decide) (fun c3 => ?_) (fun c3 => ?_)
  · have h := ite_f c3 h
    refine J_aload_n (j := 0) hC dX3_load_18 rfl ?_
    refine J_g3_7 hC k_X3_97 dX3_load_19 h (fun v5 _ h => ?_)
    refine J_if_eq (tgt := 36) hC dX3_load_22 (by decide) (fun c6 => ?_) (fun c6 => ?_)
    · have h := ite_t c6 h
      refine J_aload_n (j := 0) hC dX3_load_36 rfl ?_
      refine J_iconst (v := 2) hC dX3_load_37 (by decide) ?_
      refine ck_c h (fun ho h => ?_)
      refine bnd_c h (fun w7 hw h => ?_)
      refine J_callV (As := [.int 2]) (M' := w7.1) (rv := some (Value.int w7.2)) (st := []) hC (fun l hl => cX3_fails_ok M1 a0 2 _ hw l hl) vm_X3_fails k_X3_79 ho ⟨rfl, rfl⟩ rfl ⟨Nat.le_of_ble_eq_true rfl, Nat.le_of_ble_eq_true rfl⟩ (Nat.zero_le _) ⟨Nat.le_of_ble_eq_true rfl, Nat.le_of_ble_eq_true rfl⟩ dX3_load_38 rfl ?_
      exact J_iret hC dX3_load_41 (by have h9 := Option.some.inj h; subst h9; rfl) (Nat.le_of_ble_eq_true rfl) (Nat.le_of_ble_eq_true rfl)
    · have h := ite_f c6 h
      refine J_aload_n (j := 0) hC dX3_load_25 rfl ?_
      refine ck_c h (fun ho h => ?_)
      refine bnd_c h (fun w8 hw h => ?_)
      refine J_callV (As := []) (M' := M1) (rv := some (Value.int w8)) (st := []) hC (fun l hl => cX3_error_ok M1 a0 _ hw l hl) vm_X3_error k_X3_100 ho ⟨rfl, rfl⟩ rfl ⟨Nat.le_of_ble_eq_true rfl, Nat.le_of_ble_eq_true rfl⟩ (Nat.zero_le _) ⟨Nat.le_of_ble_eq_true rfl, Nat.le_of_ble_eq_true rfl⟩ dX3_load_26 rfl ?_
      refine J_aload_n (j := 0) hC dX3_load_29 rfl ?_
      refine J_g3_7 hC k_X3_97 dX3_load_30 h (fun v9 _ h => ?_)
      refine J_icmp_ge (tgt := 42) hC dX3_load_33 (by decide) (fun c10 => ?_) (fun c10 => ?_)
      · have h := ite_t c10 h
        refine J_aload_n (j := 0) hC dX3_load_42 rfl ?_
        refine ck_c h (fun ho h => ?_)
        refine bnd_c h (fun w11 hw h => ?_)
        refine J_callV (As := []) (M' := w11) (rv := none) (st := []) hC (fun l hl => cX3_saves_ok M1 a0 _ hw l hl) vm_X3_saves k_X3_85 ho ⟨rfl, rfl⟩ rfl ⟨Nat.le_of_ble_eq_true rfl, Nat.le_of_ble_eq_true rfl⟩ (Nat.zero_le _) ⟨Nat.le_of_ble_eq_true rfl, Nat.le_of_ble_eq_true rfl⟩ dX3_load_43 rfl ?_
        refine J_iconst (v := 0) hC dX3_load_46 (by decide) ?_
        refine J_istore_n (i := 2) (lv' := [(2, .int 0), (0, rf a0), (1, .int a1)]) rfl hC dX3_load_47 (by decide) rfl ?_
        refine J_sub [1, 2, 0] rfl ?_
        refine tX3_load_48 a0 a1 hC _ (fun M25 x26 h => ?_) FU w11 0 h
        · refine J_aload_n (j := 0) hC dX3_load_121 rfl ?_
          refine J_iconst (v := 0) hC dX3_load_122 (by decide) ?_
          refine J_p3_7 hC k_X3_97 dX3_load_123 h (fun M27 _ h => ?_)
          refine J_aload_n (j := 0) hC dX3_load_126 rfl ?_
          refine J_iload_n (j := 1) hC dX3_load_127 rfl ?_
          refine ck_c h (fun ho h => ?_)
          refine bnd_c h (fun w28 hw h => ?_)
          refine J_callV (As := [.int a1]) (M' := M27) (rv := some (Value.int w28)) (st := []) hC (fun l hl => cX3_degree_ok M27 a0 a1 _ hw l hl) vm_X3_degree k_X3_51 ho ⟨rfl, rfl⟩ rfl ⟨Nat.le_of_ble_eq_true rfl, Nat.le_of_ble_eq_true rfl⟩ (Nat.zero_le _) ⟨Nat.le_of_ble_eq_true rfl, Nat.le_of_ble_eq_true rfl⟩ dX3_load_128 rfl ?_
          exact J_iret hC dX3_load_131 (by have h9 := Option.some.inj h; subst h9; rfl) (Nat.le_of_ble_eq_true rfl) (Nat.le_of_ble_eq_true rfl)
      · have h := ite_f c10 h
        refine J_aload_n (j := 0) hC dX3_load_36 rfl ?_
        refine J_iconst (v := 2) hC dX3_load_37 (by decide) ?_
        refine ck_c h (fun ho h => ?_)
        refine bnd_c h (fun w29 hw h => ?_)
        refine J_callV (As := [.int 2]) (M' := w29.1) (rv := some (Value.int w29.2)) (st := []) hC (fun l hl => cX3_fails_ok M1 a0 2 _ hw l hl) vm_X3_fails k_X3_79 ho ⟨rfl, rfl⟩ rfl ⟨Nat.le_of_ble_eq_true rfl, Nat.le_of_ble_eq_true rfl⟩ (Nat.zero_le _) ⟨Nat.le_of_ble_eq_true rfl, Nat.le_of_ble_eq_true rfl⟩ dX3_load_38 rfl ?_
        exact J_iret hC dX3_load_41 (by have h9 := Option.some.inj h; subst h9; rfl) (Nat.le_of_ble_eq_true rfl) (Nat.le_of_ble_eq_true rfl)
  · have h := ite_t c3 h
    refine J_aload_n (j := 0) hC dX3_load_12 rfl ?_
    refine J_iconst (v := 1) hC dX3_load_13 (by decide) ?_
    refine ck_c h (fun ho h => ?_)
    refine bnd_c h (fun w4 hw h => ?_)
    refine J_callV (As := [.int 1]) (M' := w4.1) (rv := some (Value.int w4.2)) (st := []) hC (fun l hl => cX3_fails_ok M1 a0 1 _ hw l hl) vm_X3_fails k_X3_79 ho ⟨rfl, rfl⟩ rfl ⟨Nat.le_of_ble_eq_true rfl, Nat.le_of_ble_eq_true rfl⟩ (Nat.zero_le _) ⟨Nat.le_of_ble_eq_true rfl, Nat.le_of_ble_eq_true rfl⟩ dX3_load_14 rfl ?_
    exact J_iret hC dX3_load_17 (by have h9 := Option.some.inj h; subst h9; rfl) (Nat.le_of_ble_eq_true rfl) (Nat.le_of_ble_eq_true rfl)
abbrev rm_X3_degrees : Room := { frames := 2, cells := 0, slots := 0, locals := 45 }

set_option maxHeartbeats 4000000 in
set_option maxRecDepth 100000 in
theorem tX3_degrees_4 {C : JC} {r0 : Int32} (M : Mem) (x0 : Option Nat) (hC : Ok C false cX3_degrees 3 rm_X3_degrees (some .int) RX3 (M, Sum.inr (some (Value.int r0))))  (k23 : Int32 → Int32 → Option (Int32)) (hk23 : ∀ (x1 : Int32) (x2 : Int32), k23 x1 x2 = some r0 → J C 0 0 M 23 [(0, rf x0), (1, .int x1), (2, .int x2)] []) : ∀ (n : Nat) (x1 : Int32) (x2 : Int32), fX3_degrees_4 M x0 k23 n x1 x2 = some r0 → J C 0 0 M 4 [(0, rf x0), (1, .int x1), (2, .int x2)] [] := by
  intro n
  induction n with
  | zero => intro x1 x2 h; have h : none = some r0 := h; cases h
  | succ n ih =>
    intro x1 x2 h
    rw [fX3_degrees_4] at h
    refine J_iload_n (j := 2) hC dX3_degrees_4 rfl ?_
    refine J_iconst (v := 5) hC dX3_degrees_5 (by decide) ?_
    refine J_icmp_ge (tgt := 23) hC dX3_degrees_6 (by decide) (fun c1 => ?_) (fun c1 => ?_)
    · have h := ite_t c1 h
      refine J_sub [0, 1, 2] rfl ?_
      exact hk23 x1 x2 h
    · have h := ite_f c1 h
      refine J_iload_n (j := 1) hC dX3_degrees_9 rfl ?_
      refine J_aload_n (j := 0) hC dX3_degrees_10 rfl ?_
      refine J_iload_n (j := 2) hC dX3_degrees_11 rfl ?_
      refine ck_c h (fun ho h => ?_)
      refine bnd_c h (fun w2 hw h => ?_)
      refine J_callV (As := [.int x2]) (M' := M) (rv := some (Value.int w2)) (st := [.int x1]) hC (fun l hl => cX3_degree_ok M x0 x2 _ hw l hl) vm_X3_degree k_X3_51 ho ⟨rfl, rfl⟩ rfl ⟨Nat.le_of_ble_eq_true rfl, Nat.le_of_ble_eq_true rfl⟩ (Nat.le_of_ble_eq_true rfl) ⟨Nat.le_of_ble_eq_true rfl, Nat.le_of_ble_eq_true rfl⟩ dX3_degrees_12 rfl ?_
      refine J_iadd hC dX3_degrees_15 ?_
      refine J_istore_n (i := 1) (lv' := [(1, .int (x1 + w2)), (0, rf x0), (2, .int x2)]) rfl hC dX3_degrees_16 (by decide) rfl ?_
      refine J_inc (j := 2) (k := 1) (lv' := [(2, .int (x2 + 1)), (1, .int (x1 + w2)), (0, rf x0)]) hC dX3_degrees_17 (by decide) rfl (by decide) rfl ?_
      refine J_goto (tgt := 4) hC dX3_degrees_20 (by decide) ?_
      refine J_sub [2, 1, 0] rfl ?_
      exact ih (x1 + w2) (x2 + 1) h
set_option maxHeartbeats 4000000 in
set_option maxRecDepth 100000 in
theorem cX3_degrees_ok (M : Mem) (a0 : Option Nat) (r0 : Int32) (h : fX3_degrees M a0 = some r0) : ∀ l : Launch, l.stackTraces = false → Con false l yX3_degrees cX3_degrees 3 (some .int) rm_X3_degrees [rf a0] M (M, Sum.inr (some (Value.int r0))) := by
  intro l hst
  refine Con.enter hst (own := RX3) (by decide +kernel) rfl (by exact Nat.le_of_ble_eq_true rfl) (lv0 := [(0, rf a0)]) (rfl) (fun C hC hin => ?_)
  unfold fX3_degrees at h
  refine J_iconst (v := 0) hC dX3_degrees_0 (by decide) ?_
  refine J_istore_n (i := 1) (lv' := [(1, .int 0), (0, rf a0)]) rfl hC dX3_degrees_1 (by decide) rfl ?_
  refine J_iconst (v := 0) hC dX3_degrees_2 (by decide) ?_
  refine J_istore_n (i := 2) (lv' := [(2, .int 0), (1, .int 0), (0, rf a0)]) rfl hC dX3_degrees_3 (by decide) rfl ?_
  refine J_sub [2, 1, 0] rfl ?_
  refine tX3_degrees_4 M a0 hC _ (fun x3 x4 h => ?_) FU 0 0 h
  · refine J_iload_n (j := 1) hC dX3_degrees_23 rfl ?_
    exact J_iret hC dX3_degrees_24 (by have h9 := Option.some.inj h; subst h9; rfl) (Nat.le_of_ble_eq_true rfl) (Nat.le_of_ble_eq_true rfl)
abbrev rm_X3_keep : Room := { frames := 3, cells := 0, slots := 0, locals := 67 }

set_option maxHeartbeats 4000000 in
set_option maxRecDepth 100000 in
theorem tX3_keep_22 {C : JC} {r0 : Mem × Int32} (x0 : Option Nat) (x1 : Int32) (hC : Ok C false cX3_keep 3 rm_X3_keep (some .int) RX3 (r0.1, Sum.inr (some (Value.int r0.2))))  (k51 : Mem → Int32 → Option (Mem × Int32)) (hk51 : ∀ (M : Mem) (x2 : Int32), k51 M x2 = some r0 → J C 0 0 M 51 [(0, rf x0), (1, .int x1), (2, .int x2)] []) : ∀ (n : Nat) (M : Mem) (x2 : Int32), fX3_keep_22 x0 x1 k51 n M x2 = some r0 → J C 0 0 M 22 [(0, rf x0), (1, .int x1), (2, .int x2)] [] := by
  intro n
  induction n with
  | zero => intro M x2 h; have h : none = some r0 := h; cases h
  | succ n ih =>
    intro M x2 h
    rw [fX3_keep_22] at h
    refine J_iload_n (j := 2) hC dX3_keep_22 rfl ?_
    refine J_bipush (v := 56) hC dX3_keep_23 (by decide) ?_
    refine J_icmp_ge (tgt := 51) hC dX3_keep_25 (by decide) (fun c5 => ?_) (fun c5 => ?_)
    · have h := ite_t c5 h
      refine J_sub [0, 1, 2] rfl ?_
      exact hk51 M x2 h
    · have h := ite_f c5 h
      refine J_aload_n (j := 0) hC dX3_keep_28 rfl ?_
      refine J_g3_4 hC k_X3_16 dX3_keep_29 h (fun v6 _ h => ?_)
      refine J_bipush (v := 56) hC dX3_keep_32 (by decide) ?_
      refine J_iload_n (j := 1) hC dX3_keep_34 rfl ?_
      refine J_imul hC dX3_keep_35 ?_
      refine J_iload_n (j := 2) hC dX3_keep_36 rfl ?_
      refine J_iadd hC dX3_keep_37 ?_
      refine J_aload_n (j := 0) hC dX3_keep_38 rfl ?_
      refine J_g3_1 hC k_X3_7 dX3_keep_39 h (fun v7 _ h => ?_)
      refine J_iload_n (j := 2) hC dX3_keep_42 rfl ?_
      refine J_iald hC dX3_keep_43 h (fun v8 _ h => ?_)
      refine J_iast hC dX3_keep_44 h (fun M9 _ h => ?_)
      refine J_inc (j := 2) (k := 1) (lv' := [(2, .int (x2 + 1)), (0, rf x0), (1, .int x1)]) hC dX3_keep_45 (by decide) rfl (by decide) rfl ?_
      refine J_goto (tgt := 22) hC dX3_keep_48 (by decide) ?_
      refine J_sub [1, 2, 0] rfl ?_
      exact ih M9 (x2 + 1) h
set_option maxHeartbeats 4000000 in
set_option maxRecDepth 100000 in
theorem cX3_keep_ok (M : Mem) (a0 : Option Nat) (a1 : Int32) (r0 : Mem × Int32) (h : fX3_keep M a0 a1 = some r0) : ∀ l : Launch, l.stackTraces = false → Con false l yX3_keep cX3_keep 3 (some .int) rm_X3_keep [rf a0, .int a1] M (r0.1, Sum.inr (some (Value.int r0.2))) := by
  intro l hst
  refine Con.enter hst (own := RX3) (by decide +kernel) rfl (by exact Nat.le_of_ble_eq_true rfl) (lv0 := [(0, rf a0), (1, .int a1)]) (rfl) (fun C hC hin => ?_)
  unfold fX3_keep at h
  refine J_aload_n (j := 0) hC dX3_keep_0 rfl ?_
  refine J_iconst (v := 0) hC dX3_keep_1 (by decide) ?_
  refine J_p3_0 hC k_X3_36 dX3_keep_2 h (fun M1 _ h => ?_)
  refine J_iload_n (j := 1) hC dX3_keep_5 rfl ?_
  refine J_iconst (v := 0) hC dX3_keep_6 (by decide) ?_
  refine J_iconst (v := 1) hC dX3_keep_7 (by decide) ?_
  refine bnd_c h (fun w2 hw h => ?_)
  refine J_callS (As := [.int a1, .int 0, .int 1]) (M' := M1) (rv := some (Value.int w2)) (st := []) hC (fun l hl => cX3_in_ok M1 a1 0 1 _ hw l hl) sm_X3_in k_X3_40 rfl ⟨Nat.le_of_ble_eq_true rfl, Nat.le_of_ble_eq_true rfl⟩ (Nat.zero_le _) ⟨Nat.le_of_ble_eq_true rfl, Nat.le_of_ble_eq_true rfl⟩ dX3_keep_8 rfl ?_
  refine J_if_ne (tgt := 20) hC dX3_keep_11 (by decide) (fun c3 => ?_) (fun c3 => ?_)
  · have h := ite_f c3 h
    refine J_iconst (v := 0) hC dX3_keep_20 (by decide) ?_
    refine J_istore_n (i := 2) (lv' := [(2, .int 0), (0, rf a0), (1, .int a1)]) rfl hC dX3_keep_21 (by decide) rfl ?_
    refine J_sub [1, 2, 0] rfl ?_
    refine tX3_keep_22 a0 a1 hC _ (fun M10 x11 h => ?_) FU M1 0 h
    · refine J_aload_n (j := 0) hC dX3_keep_51 rfl ?_
      refine J_g3_5 hC k_X3_19 dX3_keep_52 h (fun v12 _ h => ?_)
      refine J_iload_n (j := 1) hC dX3_keep_55 rfl ?_
      refine J_iconst (v := 1) hC dX3_keep_56 (by decide) ?_
      refine J_zast hC dX3_keep_57 h (fun M13 _ h => ?_)
      refine J_aload_n (j := 0) hC dX3_keep_58 rfl ?_
      refine ck_c h (fun ho h => ?_)
      refine bnd_c h (fun w14 hw h => ?_)
      refine J_callV (As := []) (M' := M13) (rv := some (Value.int w14)) (st := []) hC (fun l hl => cX3_degrees_ok M13 a0 _ hw l hl) vm_X3_degrees k_X3_104 ho ⟨rfl, rfl⟩ rfl ⟨Nat.le_of_ble_eq_true rfl, Nat.le_of_ble_eq_true rfl⟩ (Nat.zero_le _) ⟨Nat.le_of_ble_eq_true rfl, Nat.le_of_ble_eq_true rfl⟩ dX3_keep_59 rfl ?_
      exact J_iret hC dX3_keep_62 (by have h9 := Option.some.inj h; subst h9; rfl) (Nat.le_of_ble_eq_true rfl) (Nat.le_of_ble_eq_true rfl)
  · have h := ite_t c3 h
    refine J_aload_n (j := 0) hC dX3_keep_14 rfl ?_
    refine J_iconst (v := 1) hC dX3_keep_15 (by decide) ?_
    refine ck_c h (fun ho h => ?_)
    refine bnd_c h (fun w4 hw h => ?_)
    refine J_callV (As := [.int 1]) (M' := w4.1) (rv := some (Value.int w4.2)) (st := []) hC (fun l hl => cX3_fails_ok M1 a0 1 _ hw l hl) vm_X3_fails k_X3_79 ho ⟨rfl, rfl⟩ rfl ⟨Nat.le_of_ble_eq_true rfl, Nat.le_of_ble_eq_true rfl⟩ (Nat.zero_le _) ⟨Nat.le_of_ble_eq_true rfl, Nat.le_of_ble_eq_true rfl⟩ dX3_keep_16 rfl ?_
    exact J_iret hC dX3_keep_19 (by have h9 := Option.some.inj h; subst h9; rfl) (Nat.le_of_ble_eq_true rfl) (Nat.le_of_ble_eq_true rfl)
abbrev rm_X3_goBack : Room := { frames := 3, cells := 0, slots := 0, locals := 67 }

set_option maxHeartbeats 4000000 in
set_option maxRecDepth 100000 in
theorem tX3_goBack_41 {C : JC} {r0 : Mem × Int32} (x0 : Option Nat) (x1 : Int32) (hC : Ok C false cX3_goBack 3 rm_X3_goBack (some .int) RX3 (r0.1, Sum.inr (some (Value.int r0.2))))  (k70 : Mem → Int32 → Option (Mem × Int32)) (hk70 : ∀ (M : Mem) (x2 : Int32), k70 M x2 = some r0 → J C 0 0 M 70 [(0, rf x0), (1, .int x1), (2, .int x2)] []) : ∀ (n : Nat) (M : Mem) (x2 : Int32), fX3_goBack_41 x0 x1 k70 n M x2 = some r0 → J C 0 0 M 41 [(0, rf x0), (1, .int x1), (2, .int x2)] [] := by
  intro n
  induction n with
  | zero => intro M x2 h; have h : none = some r0 := h; cases h
  | succ n ih =>
    intro M x2 h
    rw [fX3_goBack_41] at h
    refine J_iload_n (j := 2) hC dX3_goBack_41 rfl ?_
    refine J_bipush (v := 56) hC dX3_goBack_42 (by decide) ?_
    refine J_icmp_ge (tgt := 70) hC dX3_goBack_44 (by decide) (fun c10 => ?_) (fun c10 => ?_)
    · have h := ite_t c10 h
      refine J_sub [0, 1, 2] rfl ?_
      exact hk70 M x2 h
    · have h := ite_f c10 h
      refine J_aload_n (j := 0) hC dX3_goBack_47 rfl ?_
      refine J_g3_1 hC k_X3_7 dX3_goBack_48 h (fun v11 _ h => ?_)
      refine J_iload_n (j := 2) hC dX3_goBack_51 rfl ?_
      refine J_aload_n (j := 0) hC dX3_goBack_52 rfl ?_
      refine J_g3_4 hC k_X3_16 dX3_goBack_53 h (fun v12 _ h => ?_)
      refine J_bipush (v := 56) hC dX3_goBack_56 (by decide) ?_
      refine J_iload_n (j := 1) hC dX3_goBack_58 rfl ?_
      refine J_imul hC dX3_goBack_59 ?_
      refine J_iload_n (j := 2) hC dX3_goBack_60 rfl ?_
      refine J_iadd hC dX3_goBack_61 ?_
      refine J_iald hC dX3_goBack_62 h (fun v13 _ h => ?_)
      refine J_iast hC dX3_goBack_63 h (fun M14 _ h => ?_)
      refine J_inc (j := 2) (k := 1) (lv' := [(2, .int (x2 + 1)), (0, rf x0), (1, .int x1)]) hC dX3_goBack_64 (by decide) rfl (by decide) rfl ?_
      refine J_goto (tgt := 41) hC dX3_goBack_67 (by decide) ?_
      refine J_sub [1, 2, 0] rfl ?_
      exact ih M14 (x2 + 1) h
set_option maxHeartbeats 4000000 in
set_option maxRecDepth 100000 in
theorem cX3_goBack_ok (M : Mem) (a0 : Option Nat) (a1 : Int32) (r0 : Mem × Int32) (h : fX3_goBack M a0 a1 = some r0) : ∀ l : Launch, l.stackTraces = false → Con false l yX3_goBack cX3_goBack 3 (some .int) rm_X3_goBack [rf a0, .int a1] M (r0.1, Sum.inr (some (Value.int r0.2))) := by
  intro l hst
  refine Con.enter hst (own := RX3) (by decide +kernel) rfl (by exact Nat.le_of_ble_eq_true rfl) (lv0 := [(0, rf a0), (1, .int a1)]) (rfl) (fun C hC hin => ?_)
  unfold fX3_goBack at h
  refine J_aload_n (j := 0) hC dX3_goBack_0 rfl ?_
  refine J_iconst (v := 0) hC dX3_goBack_1 (by decide) ?_
  refine J_p3_0 hC k_X3_36 dX3_goBack_2 h (fun M1 _ h => ?_)
  refine J_iload_n (j := 1) hC dX3_goBack_5 rfl ?_
  refine J_iconst (v := 0) hC dX3_goBack_6 (by decide) ?_
  refine J_iconst (v := 1) hC dX3_goBack_7 (by decide) ?_
  refine bnd_c h (fun w2 hw h => ?_)
  refine J_callS (As := [.int a1, .int 0, .int 1]) (M' := M1) (rv := some (Value.int w2)) (st := []) hC (fun l hl => cX3_in_ok M1 a1 0 1 _ hw l hl) sm_X3_in k_X3_40 rfl ⟨Nat.le_of_ble_eq_true rfl, Nat.le_of_ble_eq_true rfl⟩ (Nat.zero_le _) ⟨Nat.le_of_ble_eq_true rfl, Nat.le_of_ble_eq_true rfl⟩ dX3_goBack_8 rfl ?_
  refine J_if_ne (tgt := 20) hC dX3_goBack_11 (by decide) (fun c3 => ?_) (fun c3 => ?_)
  · have h := ite_f c3 h
    refine J_aload_n (j := 0) hC dX3_goBack_20 rfl ?_
    refine J_g3_5 hC k_X3_19 dX3_goBack_21 h (fun v5 _ h => ?_)
    refine J_iload_n (j := 1) hC dX3_goBack_24 rfl ?_
    refine J_zald hC dX3_goBack_25 h (fun v6 _ h => ?_)
    refine J_if_ne (tgt := 35) hC dX3_goBack_26 (by decide) (fun c7 => ?_) (fun c7 => ?_)
    · have h := ite_f c7 h
      refine J_aload_n (j := 0) hC dX3_goBack_35 rfl ?_
      refine ck_c h (fun ho h => ?_)
      refine bnd_c h (fun w9 hw h => ?_)
      refine J_callV (As := []) (M' := w9) (rv := none) (st := []) hC (fun l hl => cX3_saves_ok M1 a0 _ hw l hl) vm_X3_saves k_X3_85 ho ⟨rfl, rfl⟩ rfl ⟨Nat.le_of_ble_eq_true rfl, Nat.le_of_ble_eq_true rfl⟩ (Nat.zero_le _) ⟨Nat.le_of_ble_eq_true rfl, Nat.le_of_ble_eq_true rfl⟩ dX3_goBack_36 rfl ?_
      refine J_iconst (v := 0) hC dX3_goBack_39 (by decide) ?_
      refine J_istore_n (i := 2) (lv' := [(2, .int 0), (0, rf a0), (1, .int a1)]) rfl hC dX3_goBack_40 (by decide) rfl ?_
      refine J_sub [1, 2, 0] rfl ?_
      refine tX3_goBack_41 a0 a1 hC _ (fun M15 x16 h => ?_) FU w9 0 h
      · refine J_aload_n (j := 0) hC dX3_goBack_70 rfl ?_
        refine ck_c h (fun ho h => ?_)
        refine bnd_c h (fun w17 hw h => ?_)
        refine J_callV (As := []) (M' := M15) (rv := some (Value.int w17)) (st := []) hC (fun l hl => cX3_degrees_ok M15 a0 _ hw l hl) vm_X3_degrees k_X3_104 ho ⟨rfl, rfl⟩ rfl ⟨Nat.le_of_ble_eq_true rfl, Nat.le_of_ble_eq_true rfl⟩ (Nat.zero_le _) ⟨Nat.le_of_ble_eq_true rfl, Nat.le_of_ble_eq_true rfl⟩ dX3_goBack_71 rfl ?_
        exact J_iret hC dX3_goBack_74 (by have h9 := Option.some.inj h; subst h9; rfl) (Nat.le_of_ble_eq_true rfl) (Nat.le_of_ble_eq_true rfl)
    · have h := ite_t c7 h
      refine J_aload_n (j := 0) hC dX3_goBack_29 rfl ?_
      refine J_iconst (v := 2) hC dX3_goBack_30 (by decide) ?_
      refine ck_c h (fun ho h => ?_)
      refine bnd_c h (fun w8 hw h => ?_)
      refine J_callV (As := [.int 2]) (M' := w8.1) (rv := some (Value.int w8.2)) (st := []) hC (fun l hl => cX3_fails_ok M1 a0 2 _ hw l hl) vm_X3_fails k_X3_79 ho ⟨rfl, rfl⟩ rfl ⟨Nat.le_of_ble_eq_true rfl, Nat.le_of_ble_eq_true rfl⟩ (Nat.zero_le _) ⟨Nat.le_of_ble_eq_true rfl, Nat.le_of_ble_eq_true rfl⟩ dX3_goBack_31 rfl ?_
      exact J_iret hC dX3_goBack_34 (by have h9 := Option.some.inj h; subst h9; rfl) (Nat.le_of_ble_eq_true rfl) (Nat.le_of_ble_eq_true rfl)
  · have h := ite_t c3 h
    refine J_aload_n (j := 0) hC dX3_goBack_14 rfl ?_
    refine J_iconst (v := 1) hC dX3_goBack_15 (by decide) ?_
    refine ck_c h (fun ho h => ?_)
    refine bnd_c h (fun w4 hw h => ?_)
    refine J_callV (As := [.int 1]) (M' := w4.1) (rv := some (Value.int w4.2)) (st := []) hC (fun l hl => cX3_fails_ok M1 a0 1 _ hw l hl) vm_X3_fails k_X3_79 ho ⟨rfl, rfl⟩ rfl ⟨Nat.le_of_ble_eq_true rfl, Nat.le_of_ble_eq_true rfl⟩ (Nat.zero_le _) ⟨Nat.le_of_ble_eq_true rfl, Nat.le_of_ble_eq_true rfl⟩ dX3_goBack_16 rfl ?_
    exact J_iret hC dX3_goBack_19 (by have h9 := Option.some.inj h; subst h9; rfl) (Nat.le_of_ble_eq_true rfl) (Nat.le_of_ble_eq_true rfl)
abbrev rm_X3_undo : Room := { frames := 1, cells := 0, slots := 0, locals := 21 }

set_option maxHeartbeats 4000000 in
set_option maxRecDepth 100000 in
theorem tX3_undo_30 {C : JC} {r0 : Mem × Int32} (x0 : Option Nat) (hC : Ok C false cX3_undo 2 rm_X3_undo (some .int) RX3 (r0.1, Sum.inr (some (Value.int r0.2))))  (k62 : Mem → Int32 → Option (Mem × Int32)) (hk62 : ∀ (M : Mem) (x1 : Int32), k62 M x1 = some r0 → J C 0 0 M 62 [(0, rf x0), (1, .int x1)] []) : ∀ (n : Nat) (M : Mem) (x1 : Int32), fX3_undo_30 x0 k62 n M x1 = some r0 → J C 0 0 M 30 [(0, rf x0), (1, .int x1)] [] := by
  intro n
  induction n with
  | zero => intro M x1 h; have h : none = some r0 := h; cases h
  | succ n ih =>
    intro M x1 h
    rw [fX3_undo_30] at h
    refine J_iload_n (j := 1) hC dX3_undo_30 rfl ?_
    refine J_bipush (v := 56) hC dX3_undo_31 (by decide) ?_
    refine J_icmp_ge (tgt := 62) hC dX3_undo_33 (by decide) (fun c7 => ?_) (fun c7 => ?_)
    · have h := ite_t c7 h
      refine J_sub [0, 1] rfl ?_
      exact hk62 M x1 h
    · have h := ite_f c7 h
      refine J_aload_n (j := 0) hC dX3_undo_36 rfl ?_
      refine J_g3_1 hC k_X3_7 dX3_undo_37 h (fun v8 _ h => ?_)
      refine J_iload_n (j := 1) hC dX3_undo_40 rfl ?_
      refine J_aload_n (j := 0) hC dX3_undo_41 rfl ?_
      refine J_g3_2 hC k_X3_13 dX3_undo_42 h (fun v9 _ h => ?_)
      refine J_bipush (v := 56) hC dX3_undo_45 (by decide) ?_
      refine J_aload_n (j := 0) hC dX3_undo_47 rfl ?_
      refine J_g3_3 hC k_X3_48 dX3_undo_48 h (fun v10 _ h => ?_)
      refine J_imul hC dX3_undo_51 ?_
      refine J_iload_n (j := 1) hC dX3_undo_52 rfl ?_
      refine J_iadd hC dX3_undo_53 ?_
      refine J_iald hC dX3_undo_54 h (fun v11 _ h => ?_)
      refine J_iast hC dX3_undo_55 h (fun M12 _ h => ?_)
      refine J_inc (j := 1) (k := 1) (lv' := [(1, .int (x1 + 1)), (0, rf x0)]) hC dX3_undo_56 (by decide) rfl (by decide) rfl ?_
      refine J_goto (tgt := 30) hC dX3_undo_59 (by decide) ?_
      refine J_sub [1, 0] rfl ?_
      exact ih M12 (x1 + 1) h
set_option maxHeartbeats 4000000 in
set_option maxRecDepth 100000 in
theorem cX3_undo_ok (M : Mem) (a0 : Option Nat) (r0 : Mem × Int32) (h : fX3_undo M a0 = some r0) : ∀ l : Launch, l.stackTraces = false → Con false l yX3_undo cX3_undo 2 (some .int) rm_X3_undo [rf a0] M (r0.1, Sum.inr (some (Value.int r0.2))) := by
  intro l hst
  refine Con.enter hst (own := RX3) (by decide +kernel) rfl (by exact Nat.le_of_ble_eq_true rfl) (lv0 := [(0, rf a0)]) (rfl) (fun C hC hin => ?_)
  unfold fX3_undo at h
  refine J_aload_n (j := 0) hC dX3_undo_0 rfl ?_
  refine J_iconst (v := 0) hC dX3_undo_1 (by decide) ?_
  refine J_p3_0 hC k_X3_36 dX3_undo_2 h (fun M1 _ h => ?_)
  refine J_aload_n (j := 0) hC dX3_undo_5 rfl ?_
  refine J_g3_3 hC k_X3_48 dX3_undo_6 h (fun v2 _ h => ?_)
  refine J_if_ne (tgt := 18) hC dX3_undo_9 (by decide) (fun c3 => ?_) (fun c3 => ?_)
  · have h := ite_f c3 h
    refine J_aload_n (j := 0) hC dX3_undo_18 rfl ?_
    refine J_dup hC dX3_undo_19 rfl ?_
    refine J_g3_3 hC k_X3_48 dX3_undo_20 h (fun v5 _ h => ?_)
    refine J_iconst (v := 1) hC dX3_undo_23 (by decide) ?_
    refine J_isub hC dX3_undo_24 ?_
    refine J_p3_3 hC k_X3_48 dX3_undo_25 h (fun M6 _ h => ?_)
    refine J_iconst (v := 0) hC dX3_undo_28 (by decide) ?_
    refine J_istore_n (i := 1) (lv' := [(1, .int 0), (0, rf a0)]) rfl hC dX3_undo_29 (by decide) rfl ?_
    refine J_sub [1, 0] rfl ?_
    refine tX3_undo_30 a0 hC _ (fun M13 x14 h => ?_) FU M6 0 h
    · refine J_aload_n (j := 0) hC dX3_undo_62 rfl ?_
      refine J_g3_3 hC k_X3_48 dX3_undo_63 h (fun v15 _ h => ?_)
      exact J_iret hC dX3_undo_66 (by have h9 := Option.some.inj h; subst h9; rfl) (Nat.le_of_ble_eq_true rfl) (Nat.le_of_ble_eq_true rfl)
  · have h := ite_t c3 h
    refine J_aload_n (j := 0) hC dX3_undo_12 rfl ?_
    refine J_iconst (v := 1) hC dX3_undo_13 (by decide) ?_
    refine ck_c h (fun ho h => ?_)
    refine bnd_c h (fun w4 hw h => ?_)
    refine J_callV (As := [.int 1]) (M' := w4.1) (rv := some (Value.int w4.2)) (st := []) hC (fun l hl => cX3_fails_ok M1 a0 1 _ hw l hl) vm_X3_fails k_X3_79 ho ⟨rfl, rfl⟩ rfl ⟨Nat.le_of_ble_eq_true rfl, Nat.le_of_ble_eq_true rfl⟩ (Nat.zero_le _) ⟨Nat.le_of_ble_eq_true rfl, Nat.le_of_ble_eq_true rfl⟩ dX3_undo_14 rfl ?_
    exact J_iret hC dX3_undo_17 (by have h9 := Option.some.inj h; subst h9; rfl) (Nat.le_of_ble_eq_true rfl) (Nat.le_of_ble_eq_true rfl)
abbrev rm_X3_sign : Room := { frames := 2, cells := 0, slots := 0, locals := 42 }

set_option maxHeartbeats 4000000 in
set_option maxRecDepth 100000 in
theorem cX3_sign_ok (M : Mem) (a0 : Option Nat) (a1 : Int32) (a2 : Int32) (r0 : Mem × Int32) (h : fX3_sign M a0 a1 a2 = some r0) : ∀ l : Launch, l.stackTraces = false → Con false l yX3_sign cX3_sign 3 (some .int) rm_X3_sign [rf a0, .int a1, .int a2] M (r0.1, Sum.inr (some (Value.int r0.2))) := by
  intro l hst
  refine Con.enter hst (own := RX3) (by decide +kernel) rfl (by exact Nat.le_of_ble_eq_true rfl) (lv0 := [(0, rf a0), (1, .int a1), (2, .int a2)]) (rfl) (fun C hC hin => ?_)
  unfold fX3_sign at h
  refine J_aload_n (j := 0) hC dX3_sign_0 rfl ?_
  refine J_iconst (v := 0) hC dX3_sign_1 (by decide) ?_
  refine J_p3_0 hC k_X3_36 dX3_sign_2 h (fun M1 _ h => ?_)
  refine J_iload_n (j := 1) hC dX3_sign_5 rfl ?_
  refine bnd_c h (fun w2 hw h => ?_)
  refine J_callS (As := [.int a1]) (M' := M1) (rv := some (Value.int w2)) (st := []) hC (fun l hl => cX3_isPoly_ok M1 a1 _ hw l hl) sm_X3_isPoly k_X3_75 rfl ⟨Nat.le_of_ble_eq_true rfl, Nat.le_of_ble_eq_true rfl⟩ (Nat.zero_le _) ⟨Nat.le_of_ble_eq_true rfl, Nat.le_of_ble_eq_true rfl⟩ dX3_sign_6 rfl ?_
  refine J_if_ne (tgt := 18) hC dX3_sign_9 (by decide) (fun c3 => ?_) (fun c3 => ?_)
  · have h := ite_f c3 h
    refine J_iload_n (j := 2) hC dX3_sign_18 rfl ?_
    refine J_iconst (v := 0) hC dX3_sign_19 (by decide) ?_
    refine J_bipush (v := 8) hC dX3_sign_20 (by decide) ?_
    refine bnd_c h (fun w5 hw h => ?_)
    refine J_callS (As := [.int a2, .int 0, .int 8]) (M' := M1) (rv := some (Value.int w5)) (st := []) hC (fun l hl => cX3_in_ok M1 a2 0 8 _ hw l hl) sm_X3_in k_X3_40 rfl ⟨Nat.le_of_ble_eq_true rfl, Nat.le_of_ble_eq_true rfl⟩ (Nat.zero_le _) ⟨Nat.le_of_ble_eq_true rfl, Nat.le_of_ble_eq_true rfl⟩ dX3_sign_22 rfl ?_
    refine J_if_eq (tgt := 37) hC dX3_sign_25 (by decide) (fun c6 => ?_) (fun c6 => ?_)
    · have h := ite_t c6 h
      refine J_aload_n (j := 0) hC dX3_sign_37 rfl ?_
      refine J_iconst (v := 2) hC dX3_sign_38 (by decide) ?_
      refine ck_c h (fun ho h => ?_)
      refine bnd_c h (fun w7 hw h => ?_)
      refine J_callV (As := [.int 2]) (M' := w7.1) (rv := some (Value.int w7.2)) (st := []) hC (fun l hl => cX3_fails_ok M1 a0 2 _ hw l hl) vm_X3_fails k_X3_79 ho ⟨rfl, rfl⟩ rfl ⟨Nat.le_of_ble_eq_true rfl, Nat.le_of_ble_eq_true rfl⟩ (Nat.zero_le _) ⟨Nat.le_of_ble_eq_true rfl, Nat.le_of_ble_eq_true rfl⟩ dX3_sign_39 rfl ?_
      exact J_iret hC dX3_sign_42 (by have h9 := Option.some.inj h; subst h9; rfl) (Nat.le_of_ble_eq_true rfl) (Nat.le_of_ble_eq_true rfl)
    · have h := ite_f c6 h
      refine J_aload_n (j := 0) hC dX3_sign_28 rfl ?_
      refine J_iload_n (j := 1) hC dX3_sign_29 rfl ?_
      refine J_iload_n (j := 2) hC dX3_sign_30 rfl ?_
      refine ck_c h (fun ho h => ?_)
      refine bnd_c h (fun w8 hw h => ?_)
      refine J_callV (As := [.int a1, .int a2]) (M' := M1) (rv := some (Value.int w8)) (st := []) hC (fun l hl => cX3_signAt_ok M1 a0 a1 a2 _ hw l hl) vm_X3_signAt k_X3_44 ho ⟨rfl, rfl⟩ rfl ⟨Nat.le_of_ble_eq_true rfl, Nat.le_of_ble_eq_true rfl⟩ (Nat.zero_le _) ⟨Nat.le_of_ble_eq_true rfl, Nat.le_of_ble_eq_true rfl⟩ dX3_sign_31 rfl ?_
      refine J_goto (tgt := 42) hC dX3_sign_34 (by decide) ?_
      exact J_iret hC dX3_sign_42 (by have h9 := Option.some.inj h; subst h9; rfl) (Nat.le_of_ble_eq_true rfl) (Nat.le_of_ble_eq_true rfl)
  · have h := ite_t c3 h
    refine J_aload_n (j := 0) hC dX3_sign_12 rfl ?_
    refine J_iconst (v := 1) hC dX3_sign_13 (by decide) ?_
    refine ck_c h (fun ho h => ?_)
    refine bnd_c h (fun w4 hw h => ?_)
    refine J_callV (As := [.int 1]) (M' := w4.1) (rv := some (Value.int w4.2)) (st := []) hC (fun l hl => cX3_fails_ok M1 a0 1 _ hw l hl) vm_X3_fails k_X3_79 ho ⟨rfl, rfl⟩ rfl ⟨Nat.le_of_ble_eq_true rfl, Nat.le_of_ble_eq_true rfl⟩ (Nat.zero_le _) ⟨Nat.le_of_ble_eq_true rfl, Nat.le_of_ble_eq_true rfl⟩ dX3_sign_14 rfl ?_
    exact J_iret hC dX3_sign_17 (by have h9 := Option.some.inj h; subst h9; rfl) (Nat.le_of_ble_eq_true rfl) (Nat.le_of_ble_eq_true rfl)
abbrev rm_X3_tells : Room := { frames := 3, cells := 0, slots := 0, locals := 68 }

set_option maxHeartbeats 4000000 in
set_option maxRecDepth 100000 in
theorem tX3_tells_27 {C : JC} {r0 : Mem × Int32} (x0 : Option Nat) (x1 : Int32) (x2 : Int32) (hC : Ok C false cX3_tells 5 rm_X3_tells (some .int) RX3 (r0.1, Sum.inr (some (Value.int r0.2))))  (k72 : Mem → Int32 → Int32 → Option (Mem × Int32)) (hk72 : ∀ (M : Mem) (x3 : Int32) (x4 : Int32), k72 M x3 x4 = some r0 → J C 0 0 M 72 [(0, rf x0), (1, .int x1), (2, .int x2), (3, .int x3), (4, .int x4)] []) : ∀ (n : Nat) (M : Mem) (x3 : Int32) (x4 : Int32), fX3_tells_27 x0 x1 x2 k72 n M x3 x4 = some r0 → J C 0 0 M 27 [(0, rf x0), (1, .int x1), (2, .int x2), (3, .int x3), (4, .int x4)] [] := by
  intro n
  induction n with
  | zero => intro M x3 x4 h; have h : none = some r0 := h; cases h
  | succ n ih =>
    intro M x3 x4 h
    rw [fX3_tells_27] at h
    refine J_iload (j := 4) hC dX3_tells_27 rfl ?_
    refine J_bipush (v := 9) hC dX3_tells_29 (by decide) ?_
    refine J_icmp_ge (tgt := 72) hC dX3_tells_31 (by decide) (fun c5 => ?_) (fun c5 => ?_)
    · have h := ite_t c5 h
      refine J_sub [0, 1, 2, 3, 4] rfl ?_
      exact hk72 M x3 x4 h
    · have h := ite_f c5 h
      refine J_aload_n (j := 0) hC dX3_tells_34 rfl ?_
      refine J_g3_8 hC k_X3_26 dX3_tells_35 h (fun v6 _ h => ?_)
      refine J_iload (j := 4) hC dX3_tells_38 rfl ?_
      refine J_aload_n (j := 0) hC dX3_tells_40 rfl ?_
      refine J_iload_n (j := 1) hC dX3_tells_41 rfl ?_
      refine J_iload (j := 4) hC dX3_tells_42 rfl ?_
      refine ck_c h (fun ho h => ?_)
      refine bnd_c h (fun w7 hw h => ?_)
      refine J_callV (As := [.int x1, .int x4]) (M' := M) (rv := some (Value.int w7)) (st := [.int x4, rf v6]) hC (fun l hl => cX3_signAt_ok M x0 x1 x4 _ hw l hl) vm_X3_signAt k_X3_44 ho ⟨rfl, rfl⟩ rfl ⟨Nat.le_of_ble_eq_true rfl, Nat.le_of_ble_eq_true rfl⟩ (Nat.le_of_ble_eq_true rfl) ⟨Nat.le_of_ble_eq_true rfl, Nat.le_of_ble_eq_true rfl⟩ dX3_tells_44 rfl ?_
      refine J_iast hC dX3_tells_47 h (fun M8 _ h => ?_)
      refine J_iload_n (j := 3) hC dX3_tells_48 rfl ?_
      refine J_aload_n (j := 0) hC dX3_tells_49 rfl ?_
      refine J_g3_8 hC k_X3_26 dX3_tells_50 h (fun v9 _ h => ?_)
      refine J_iload (j := 4) hC dX3_tells_53 rfl ?_
      refine J_iald hC dX3_tells_55 h (fun v10 _ h => ?_)
      have hj : ∀ (z11 : Int32), z11 = (if v10 = 0 then 0 else 1) → J C 0 0 M8 64 [(0, rf x0), (1, .int x1), (2, .int x2), (3, .int x3), (4, .int x4)] [.int z11, .int x3] := by
        intro z11 ez11
        subst ez11
        refine J_iadd hC dX3_tells_64 ?_
        refine J_istore_n (i := 3) (lv' := [(3, .int (x3 + (if v10 = 0 then 0 else 1))), (0, rf x0), (1, .int x1), (2, .int x2), (4, .int x4)]) rfl hC dX3_tells_65 (by decide) rfl ?_
        refine J_inc (j := 4) (k := 1) (lv' := [(4, .int (x4 + 1)), (3, .int (x3 + (if v10 = 0 then 0 else 1))), (0, rf x0), (1, .int x1), (2, .int x2)]) hC dX3_tells_66 (by decide) rfl (by decide) rfl ?_
        refine J_goto (tgt := 27) hC dX3_tells_69 (by decide) ?_
        refine J_sub [2, 3, 4, 1, 0] rfl ?_
        exact ih M8 (x3 + (if v10 = 0 then 0 else 1)) (x4 + 1) h
      refine J_if_eq (tgt := 63) hC dX3_tells_56 (by decide) (fun c12 => ?_) (fun c12 => ?_)
      · refine J_iconst (v := 0) hC dX3_tells_63 (by decide) ?_
        refine J_sub [0, 1, 2, 3, 4] rfl ?_
        exact hj _ (if_pos c12).symm
      · refine J_iconst (v := 1) hC dX3_tells_59 (by decide) ?_
        refine J_goto (tgt := 64) hC dX3_tells_60 (by decide) ?_
        refine J_sub [0, 1, 2, 3, 4] rfl ?_
        exact hj _ (if_neg c12).symm
set_option maxHeartbeats 4000000 in
set_option maxRecDepth 100000 in
theorem cX3_tells_ok (M : Mem) (a0 : Option Nat) (a1 : Int32) (a2 : Int32) (r0 : Mem × Int32) (h : fX3_tells M a0 a1 a2 = some r0) : ∀ l : Launch, l.stackTraces = false → Con false l yX3_tells cX3_tells 5 (some .int) rm_X3_tells [rf a0, .int a1, .int a2] M (r0.1, Sum.inr (some (Value.int r0.2))) := by
  intro l hst
  refine Con.enter hst (own := RX3) (by decide +kernel) rfl (by exact Nat.le_of_ble_eq_true rfl) (lv0 := [(0, rf a0), (1, .int a1), (2, .int a2)]) (rfl) (fun C hC hin => ?_)
  unfold fX3_tells at h
  refine J_iload_n (j := 2) hC dX3_tells_0 rfl ?_
  refine J_if_ne (tgt := 10) hC dX3_tells_1 (by decide) (fun c1 => ?_) (fun c1 => ?_)
  · have h := ite_f c1 h
    refine J_iload_n (j := 2) hC dX3_tells_10 rfl ?_
    refine J_iconst (v := 2) hC dX3_tells_11 (by decide) ?_
    refine J_icmp_ne (tgt := 22) hC dX3_tells_12 (by decide) (fun c3 => ?_) (fun c3 => ?_)
    · have h := ite_f c3 h
      refine J_iconst (v := 0) hC dX3_tells_22 (by decide) ?_
      refine J_istore_n (i := 3) (lv' := [(3, .int 0), (0, rf a0), (1, .int a1), (2, .int a2)]) rfl hC dX3_tells_23 (by decide) rfl ?_
      refine J_iconst (v := 0) hC dX3_tells_24 (by decide) ?_
      refine J_istore (lv' := [(4, .int 0), (3, .int 0), (0, rf a0), (1, .int a1), (2, .int a2)]) hC dX3_tells_25 (by decide) rfl ?_
      refine J_sub [2, 3, 4, 1, 0] rfl ?_
      refine tX3_tells_27 a0 a1 a2 hC _ (fun M13 x14 x15 h => ?_) FU M 0 0 h
      · refine J_iload_n (j := 2) hC dX3_tells_72 rfl ?_
        refine J_iconst (v := 1) hC dX3_tells_73 (by decide) ?_
        refine J_icmp_ne (tgt := 81) hC dX3_tells_74 (by decide) (fun c16 => ?_) (fun c16 => ?_)
        · have h := ite_f c16 h
          refine J_aload_n (j := 0) hC dX3_tells_81 rfl ?_
          refine J_g3_8 hC k_X3_26 dX3_tells_82 h (fun v17 _ h => ?_)
          refine bnd_c h (fun w18 hw h => ?_)
          refine J_callS (As := [rf v17]) (M' := M13) (rv := some (Value.int w18)) (st := []) hC (fun l hl => cX3_form_ok M13 v17 _ hw l hl) sm_X3_form k_X3_110 rfl ⟨Nat.le_of_ble_eq_true rfl, Nat.le_of_ble_eq_true rfl⟩ (Nat.zero_le _) ⟨Nat.le_of_ble_eq_true rfl, Nat.le_of_ble_eq_true rfl⟩ dX3_tells_85 rfl ?_
          exact J_iret hC dX3_tells_88 (by have h9 := Option.some.inj h; subst h9; rfl) (Nat.le_of_ble_eq_true rfl) (Nat.le_of_ble_eq_true rfl)
        · have h := ite_t c16 h
          refine J_iload_n (j := 3) hC dX3_tells_77 rfl ?_
          refine J_goto (tgt := 88) hC dX3_tells_78 (by decide) ?_
          exact J_iret hC dX3_tells_88 (by have h9 := Option.some.inj h; subst h9; rfl) (Nat.le_of_ble_eq_true rfl) (Nat.le_of_ble_eq_true rfl)
    · have h := ite_t c3 h
      refine J_aload_n (j := 0) hC dX3_tells_15 rfl ?_
      refine J_iload_n (j := 1) hC dX3_tells_16 rfl ?_
      refine J_iconst (v := 1) hC dX3_tells_17 (by decide) ?_
      refine ck_c h (fun ho h => ?_)
      refine bnd_c h (fun w4 hw h => ?_)
      refine J_callV (As := [.int a1, .int 1]) (M' := w4.1) (rv := some (Value.int w4.2)) (st := []) hC (fun l hl => cX3_often_ok M a0 a1 1 _ hw l hl) vm_X3_often k_X3_107 ho ⟨rfl, rfl⟩ rfl ⟨Nat.le_of_ble_eq_true rfl, Nat.le_of_ble_eq_true rfl⟩ (Nat.zero_le _) ⟨Nat.le_of_ble_eq_true rfl, Nat.le_of_ble_eq_true rfl⟩ dX3_tells_18 rfl ?_
      exact J_iret hC dX3_tells_21 (by have h9 := Option.some.inj h; subst h9; rfl) (Nat.le_of_ble_eq_true rfl) (Nat.le_of_ble_eq_true rfl)
  · have h := ite_t c1 h
    refine J_aload_n (j := 0) hC dX3_tells_4 rfl ?_
    refine J_iload_n (j := 1) hC dX3_tells_5 rfl ?_
    refine ck_c h (fun ho h => ?_)
    refine bnd_c h (fun w2 hw h => ?_)
    refine J_callV (As := [.int a1]) (M' := M) (rv := some (Value.int w2)) (st := []) hC (fun l hl => cX3_degree_ok M a0 a1 _ hw l hl) vm_X3_degree k_X3_51 ho ⟨rfl, rfl⟩ rfl ⟨Nat.le_of_ble_eq_true rfl, Nat.le_of_ble_eq_true rfl⟩ (Nat.zero_le _) ⟨Nat.le_of_ble_eq_true rfl, Nat.le_of_ble_eq_true rfl⟩ dX3_tells_6 rfl ?_
    exact J_iret hC dX3_tells_9 (by have h9 := Option.some.inj h; subst h9; rfl) (Nat.le_of_ble_eq_true rfl) (Nat.le_of_ble_eq_true rfl)
abbrev rm_X3_of : Room := { frames := 4, cells := 0, slots := 0, locals := 92 }

set_option maxHeartbeats 4000000 in
set_option maxRecDepth 100000 in
theorem cX3_of_ok (M : Mem) (a0 : Option Nat) (a1 : Int32) (a2 : Int32) (r0 : Mem × Int32) (h : fX3_of M a0 a1 a2 = some r0) : ∀ l : Launch, l.stackTraces = false → Con false l yX3_of cX3_of 3 (some .int) rm_X3_of [rf a0, .int a1, .int a2] M (r0.1, Sum.inr (some (Value.int r0.2))) := by
  intro l hst
  refine Con.enter hst (own := RX3) (by decide +kernel) rfl (by exact Nat.le_of_ble_eq_true rfl) (lv0 := [(0, rf a0), (1, .int a1), (2, .int a2)]) (rfl) (fun C hC hin => ?_)
  unfold fX3_of at h
  refine J_aload_n (j := 0) hC dX3_of_0 rfl ?_
  refine J_iconst (v := 0) hC dX3_of_1 (by decide) ?_
  refine J_p3_0 hC k_X3_36 dX3_of_2 h (fun M1 _ h => ?_)
  refine J_iload_n (j := 1) hC dX3_of_5 rfl ?_
  refine bnd_c h (fun w2 hw h => ?_)
  refine J_callS (As := [.int a1]) (M' := M1) (rv := some (Value.int w2)) (st := []) hC (fun l hl => cX3_isPoly_ok M1 a1 _ hw l hl) sm_X3_isPoly k_X3_75 rfl ⟨Nat.le_of_ble_eq_true rfl, Nat.le_of_ble_eq_true rfl⟩ (Nat.zero_le _) ⟨Nat.le_of_ble_eq_true rfl, Nat.le_of_ble_eq_true rfl⟩ dX3_of_6 rfl ?_
  refine J_if_ne (tgt := 18) hC dX3_of_9 (by decide) (fun c3 => ?_) (fun c3 => ?_)
  · have h := ite_f c3 h
    refine J_iload_n (j := 2) hC dX3_of_18 rfl ?_
    refine J_iconst (v := 0) hC dX3_of_19 (by decide) ?_
    refine J_iconst (v := 3) hC dX3_of_20 (by decide) ?_
    refine bnd_c h (fun w5 hw h => ?_)
    refine J_callS (As := [.int a2, .int 0, .int 3]) (M' := M1) (rv := some (Value.int w5)) (st := []) hC (fun l hl => cX3_in_ok M1 a2 0 3 _ hw l hl) sm_X3_in k_X3_40 rfl ⟨Nat.le_of_ble_eq_true rfl, Nat.le_of_ble_eq_true rfl⟩ (Nat.zero_le _) ⟨Nat.le_of_ble_eq_true rfl, Nat.le_of_ble_eq_true rfl⟩ dX3_of_21 rfl ?_
    refine J_if_eq (tgt := 36) hC dX3_of_24 (by decide) (fun c6 => ?_) (fun c6 => ?_)
    · have h := ite_t c6 h
      refine J_aload_n (j := 0) hC dX3_of_36 rfl ?_
      refine J_iconst (v := 2) hC dX3_of_37 (by decide) ?_
      refine ck_c h (fun ho h => ?_)
      refine bnd_c h (fun w7 hw h => ?_)
      refine J_callV (As := [.int 2]) (M' := w7.1) (rv := some (Value.int w7.2)) (st := []) hC (fun l hl => cX3_fails_ok M1 a0 2 _ hw l hl) vm_X3_fails k_X3_79 ho ⟨rfl, rfl⟩ rfl ⟨Nat.le_of_ble_eq_true rfl, Nat.le_of_ble_eq_true rfl⟩ (Nat.zero_le _) ⟨Nat.le_of_ble_eq_true rfl, Nat.le_of_ble_eq_true rfl⟩ dX3_of_38 rfl ?_
      exact J_iret hC dX3_of_41 (by have h9 := Option.some.inj h; subst h9; rfl) (Nat.le_of_ble_eq_true rfl) (Nat.le_of_ble_eq_true rfl)
    · have h := ite_f c6 h
      refine J_aload_n (j := 0) hC dX3_of_27 rfl ?_
      refine J_iload_n (j := 1) hC dX3_of_28 rfl ?_
      refine J_iload_n (j := 2) hC dX3_of_29 rfl ?_
      refine ck_c h (fun ho h => ?_)
      refine bnd_c h (fun w8 hw h => ?_)
      refine J_callV (As := [.int a1, .int a2]) (M' := w8.1) (rv := some (Value.int w8.2)) (st := []) hC (fun l hl => cX3_tells_ok M1 a0 a1 a2 _ hw l hl) vm_X3_tells k_X3_114 ho ⟨rfl, rfl⟩ rfl ⟨Nat.le_of_ble_eq_true rfl, Nat.le_of_ble_eq_true rfl⟩ (Nat.zero_le _) ⟨Nat.le_of_ble_eq_true rfl, Nat.le_of_ble_eq_true rfl⟩ dX3_of_30 rfl ?_
      refine J_goto (tgt := 41) hC dX3_of_33 (by decide) ?_
      exact J_iret hC dX3_of_41 (by have h9 := Option.some.inj h; subst h9; rfl) (Nat.le_of_ble_eq_true rfl) (Nat.le_of_ble_eq_true rfl)
  · have h := ite_t c3 h
    refine J_aload_n (j := 0) hC dX3_of_12 rfl ?_
    refine J_iconst (v := 1) hC dX3_of_13 (by decide) ?_
    refine ck_c h (fun ho h => ?_)
    refine bnd_c h (fun w4 hw h => ?_)
    refine J_callV (As := [.int 1]) (M' := w4.1) (rv := some (Value.int w4.2)) (st := []) hC (fun l hl => cX3_fails_ok M1 a0 1 _ hw l hl) vm_X3_fails k_X3_79 ho ⟨rfl, rfl⟩ rfl ⟨Nat.le_of_ble_eq_true rfl, Nat.le_of_ble_eq_true rfl⟩ (Nat.zero_le _) ⟨Nat.le_of_ble_eq_true rfl, Nat.le_of_ble_eq_true rfl⟩ dX3_of_14 rfl ?_
    exact J_iret hC dX3_of_17 (by have h9 := Option.some.inj h; subst h9; rfl) (Nat.le_of_ble_eq_true rfl) (Nat.le_of_ble_eq_true rfl)
abbrev rm_X3_has : Room := { frames := 1, cells := 0, slots := 0, locals := 22 }

set_option maxHeartbeats 4000000 in
set_option maxRecDepth 100000 in
theorem tX3_has_8 {C : JC} {r0 : Int32} (M : Mem) (x0 : Option Nat) (x1 : Int32) (x2 : Int32) (hC : Ok C false cX3_has 7 rm_X3_has (some .boolean) RX3 (M, Sum.inr (some (Value.int r0))))  (k98 : Int32 → Int32 → Int32 → Option (Int32)) (hk98 : ∀ (x3 : Int32) (x4 : Int32) (x5 : Int32), k98 x3 x4 x5 = some r0 → J C 0 0 M 98 [(0, rf x0), (1, .int x1), (2, .int x2), (3, .int x3), (4, .int x4), (5, .int x5)] []) : ∀ (n : Nat) (x3 : Int32) (x4 : Int32) (x5 : Int32), fX3_has_8 M x0 x1 x2 k98 n x3 x4 x5 = some r0 → J C 0 0 M 8 [(0, rf x0), (1, .int x1), (2, .int x2), (3, .int x3), (4, .int x4), (5, .int x5)] [] := by
  intro n
  induction n with
  | zero => intro x3 x4 x5 h; have h : none = some r0 := h; cases h
  | succ n ih =>
    intro x3 x4 x5 h
    rw [fX3_has_8] at h
    refine J_iload (j := 5) hC dX3_has_8 rfl ?_
    refine J_bipush (v := 9) hC dX3_has_10 (by decide) ?_
    refine J_icmp_ge (tgt := 98) hC dX3_has_12 (by decide) (fun c1 => ?_) (fun c1 => ?_)
    · have h := ite_t c1 h
      refine J_sub [0, 1, 2, 3, 4, 5] rfl ?_
      exact hk98 x3 x4 x5 h
    · have h := ite_f c1 h
      refine J_iload_n (j := 2) hC dX3_has_15 rfl ?_
      refine J_if_ne (tgt := 28) hC dX3_has_16 (by decide) (fun c2 => ?_) (fun c2 => ?_)
      · have h := ite_f c2 h
        refine J_iload_n (j := 2) hC dX3_has_28 rfl ?_
        refine J_if_ge (tgt := 51) hC dX3_has_29 (by decide) (fun c31 => ?_) (fun c31 => ?_)
        · have h := ite_t c31 h
          refine J_aload_n (j := 0) hC dX3_has_51 rfl ?_
          refine J_iload_n (j := 1) hC dX3_has_52 rfl ?_
          refine J_iload (j := 5) hC dX3_has_53 rfl ?_
          refine ck_c h (fun ho h => ?_)
          refine bnd_c h (fun w32 hw h => ?_)
          refine J_callV (As := [.int x1, .int x5]) (M' := M) (rv := some (Value.int w32)) (st := []) hC (fun l hl => cX3_signAt_ok M x0 x1 x5 _ hw l hl) vm_X3_signAt k_X3_44 ho ⟨rfl, rfl⟩ rfl ⟨Nat.le_of_ble_eq_true rfl, Nat.le_of_ble_eq_true rfl⟩ (Nat.zero_le _) ⟨Nat.le_of_ble_eq_true rfl, Nat.le_of_ble_eq_true rfl⟩ dX3_has_55 rfl ?_
          refine J_istore (lv' := [(6, .int w32), (0, rf x0), (1, .int x1), (2, .int x2), (3, .int x3), (4, .int x4), (5, .int x5)]) hC dX3_has_58 (by decide) rfl ?_
          refine J_iload_n (j := 4) hC dX3_has_60 rfl ?_
          have hj : ∀ (z36 : Int32), z36 = (if x3 = 0 then (if w32 ≤ 0 then 0 else 1) else 1) → J C 0 0 M 74 [(6, .int w32), (0, rf x0), (1, .int x1), (2, .int x2), (3, .int x3), (4, .int x4), (5, .int x5)] [.int z36] := by
            intro z36 ez36
            subst ez36
            refine J_istore_n (i := 3) (lv' := [(3, .int (if x3 = 0 then (if w32 ≤ 0 then 0 else 1) else 1)), (6, .int w32), (0, rf x0), (1, .int x1), (2, .int x2), (4, .int x4), (5, .int x5)]) rfl hC dX3_has_74 (by decide) rfl ?_
            refine J_iload (j := 5) hC dX3_has_75 rfl ?_
            have hj : ∀ (z33 : Int32), z33 = (if x4 = 0 then (if 0 ≤ w32 then 0 else 1) else 1) → J C 0 0 M 90 [(3, .int (if x3 = 0 then (if w32 ≤ 0 then 0 else 1) else 1)), (6, .int w32), (0, rf x0), (1, .int x1), (2, .int x2), (4, .int x4), (5, .int x5)] [.int z33] := by
              intro z33 ez33
              subst ez33
              refine J_istore (lv' := [(4, .int (if x4 = 0 then (if 0 ≤ w32 then 0 else 1) else 1)), (3, .int (if x3 = 0 then (if w32 ≤ 0 then 0 else 1) else 1)), (6, .int w32), (0, rf x0), (1, .int x1), (2, .int x2), (5, .int x5)]) hC dX3_has_90 (by decide) rfl ?_
              refine J_inc (j := 6) (k := 1) (lv' := [(5, .int (x5 + 1)), (4, .int (if x4 = 0 then (if 0 ≤ w32 then 0 else 1) else 1)), (3, .int (if x3 = 0 then (if w32 ≤ 0 then 0 else 1) else 1)), (6, .int w32), (0, rf x0), (1, .int x1), (2, .int x2)]) hC dX3_has_92 (by decide) rfl (by decide) rfl ?_
              refine J_goto (tgt := 8) hC dX3_has_95 (by decide) ?_
              refine J_sub [4, 5, 6, 2, 1, 0] rfl ?_
              exact ih (if x3 = 0 then (if w32 ≤ 0 then 0 else 1) else 1) (if x4 = 0 then (if 0 ≤ w32 then 0 else 1) else 1) (x5 + 1) h
            refine J_if_ne (tgt := 85) hC dX3_has_77 (by decide) (fun c34 => ?_) (fun c34 => ?_)
            · refine J_iconst (v := 1) hC dX3_has_85 (by decide) ?_
              refine J_goto (tgt := 90) hC dX3_has_86 (by decide) ?_
              refine J_sub [0, 1, 2, 3, 4, 5, 6] rfl ?_
              exact hj _ (if_neg c34).symm
            · refine J_iload (j := 1) hC dX3_has_80 rfl ?_
              refine J_if_ge (tgt := 89) hC dX3_has_82 (by decide) (fun c35 => ?_) (fun c35 => ?_)
              · refine J_iconst (v := 0) hC dX3_has_89 (by decide) ?_
                refine J_sub [0, 1, 2, 3, 4, 5, 6] rfl ?_
                exact hj _ ((if_pos c34).trans (if_pos c35)).symm
              · refine J_iconst (v := 1) hC dX3_has_85 (by decide) ?_
                refine J_goto (tgt := 90) hC dX3_has_86 (by decide) ?_
                refine J_sub [0, 1, 2, 3, 4, 5, 6] rfl ?_
                exact hj _ ((if_pos c34).trans (if_neg c35)).symm
          refine J_if_ne (tgt := 69) hC dX3_has_61 (by decide) (fun c37 => ?_) (fun c37 => ?_)
          · refine J_iconst (v := 1) hC dX3_has_69 (by decide) ?_
            refine J_goto (tgt := 74) hC dX3_has_70 (by decide) ?_
            refine J_sub [0, 1, 2, 3, 4, 5, 6] rfl ?_
            exact hj _ (if_neg c37).symm
          · refine J_iload (j := 0) hC dX3_has_64 rfl ?_
            refine J_if_le (tgt := 73) hC dX3_has_66 (by decide) (fun c38 => ?_) (fun c38 => ?_)
            · refine J_iconst (v := 0) hC dX3_has_73 (by decide) ?_
              refine J_sub [0, 1, 2, 3, 4, 5, 6] rfl ?_
              exact hj _ ((if_pos c37).trans (if_pos c38)).symm
            · refine J_iconst (v := 1) hC dX3_has_69 (by decide) ?_
              refine J_goto (tgt := 74) hC dX3_has_70 (by decide) ?_
              refine J_sub [0, 1, 2, 3, 4, 5, 6] rfl ?_
              exact hj _ ((if_pos c37).trans (if_neg c38)).symm
        · have h := ite_f c31 h
          refine J_iload (j := 5) hC dX3_has_32 rfl ?_
          refine J_iconst (v := 2) hC dX3_has_34 (by decide) ?_
          refine J_irem hC dX3_has_35 (by decide) ?_
          refine J_iconst (v := 1) hC dX3_has_36 (by decide) ?_
          refine J_icmp_ne (tgt := 51) hC dX3_has_37 (by decide) (fun c39 => ?_) (fun c39 => ?_)
          · have h := ite_f c39 h
            refine J_aload_n (j := 0) hC dX3_has_51 rfl ?_
            refine J_iload_n (j := 1) hC dX3_has_52 rfl ?_
            refine J_iload (j := 5) hC dX3_has_53 rfl ?_
            refine ck_c h (fun ho h => ?_)
            refine bnd_c h (fun w47 hw h => ?_)
            refine J_callV (As := [.int x1, .int x5]) (M' := M) (rv := some (Value.int w47)) (st := []) hC (fun l hl => cX3_signAt_ok M x0 x1 x5 _ hw l hl) vm_X3_signAt k_X3_44 ho ⟨rfl, rfl⟩ rfl ⟨Nat.le_of_ble_eq_true rfl, Nat.le_of_ble_eq_true rfl⟩ (Nat.zero_le _) ⟨Nat.le_of_ble_eq_true rfl, Nat.le_of_ble_eq_true rfl⟩ dX3_has_55 rfl ?_
            refine J_istore (lv' := [(6, .int w47), (0, rf x0), (1, .int x1), (2, .int x2), (3, .int x3), (4, .int x4), (5, .int x5)]) hC dX3_has_58 (by decide) rfl ?_
            refine J_iload_n (j := 4) hC dX3_has_60 rfl ?_
            have hj : ∀ (z51 : Int32), z51 = (if x3 = 0 then (if w47 ≤ 0 then 0 else 1) else 1) → J C 0 0 M 74 [(6, .int w47), (0, rf x0), (1, .int x1), (2, .int x2), (3, .int x3), (4, .int x4), (5, .int x5)] [.int z51] := by
              intro z51 ez51
              subst ez51
              refine J_istore_n (i := 3) (lv' := [(3, .int (if x3 = 0 then (if w47 ≤ 0 then 0 else 1) else 1)), (6, .int w47), (0, rf x0), (1, .int x1), (2, .int x2), (4, .int x4), (5, .int x5)]) rfl hC dX3_has_74 (by decide) rfl ?_
              refine J_iload (j := 5) hC dX3_has_75 rfl ?_
              have hj : ∀ (z48 : Int32), z48 = (if x4 = 0 then (if 0 ≤ w47 then 0 else 1) else 1) → J C 0 0 M 90 [(3, .int (if x3 = 0 then (if w47 ≤ 0 then 0 else 1) else 1)), (6, .int w47), (0, rf x0), (1, .int x1), (2, .int x2), (4, .int x4), (5, .int x5)] [.int z48] := by
                intro z48 ez48
                subst ez48
                refine J_istore (lv' := [(4, .int (if x4 = 0 then (if 0 ≤ w47 then 0 else 1) else 1)), (3, .int (if x3 = 0 then (if w47 ≤ 0 then 0 else 1) else 1)), (6, .int w47), (0, rf x0), (1, .int x1), (2, .int x2), (5, .int x5)]) hC dX3_has_90 (by decide) rfl ?_
                refine J_inc (j := 6) (k := 1) (lv' := [(5, .int (x5 + 1)), (4, .int (if x4 = 0 then (if 0 ≤ w47 then 0 else 1) else 1)), (3, .int (if x3 = 0 then (if w47 ≤ 0 then 0 else 1) else 1)), (6, .int w47), (0, rf x0), (1, .int x1), (2, .int x2)]) hC dX3_has_92 (by decide) rfl (by decide) rfl ?_
                refine J_goto (tgt := 8) hC dX3_has_95 (by decide) ?_
                refine J_sub [4, 5, 6, 2, 1, 0] rfl ?_
                exact ih (if x3 = 0 then (if w47 ≤ 0 then 0 else 1) else 1) (if x4 = 0 then (if 0 ≤ w47 then 0 else 1) else 1) (x5 + 1) h
              refine J_if_ne (tgt := 85) hC dX3_has_77 (by decide) (fun c49 => ?_) (fun c49 => ?_)
              · refine J_iconst (v := 1) hC dX3_has_85 (by decide) ?_
                refine J_goto (tgt := 90) hC dX3_has_86 (by decide) ?_
                refine J_sub [0, 1, 2, 3, 4, 5, 6] rfl ?_
                exact hj _ (if_neg c49).symm
              · refine J_iload (j := 1) hC dX3_has_80 rfl ?_
                refine J_if_ge (tgt := 89) hC dX3_has_82 (by decide) (fun c50 => ?_) (fun c50 => ?_)
                · refine J_iconst (v := 0) hC dX3_has_89 (by decide) ?_
                  refine J_sub [0, 1, 2, 3, 4, 5, 6] rfl ?_
                  exact hj _ ((if_pos c49).trans (if_pos c50)).symm
                · refine J_iconst (v := 1) hC dX3_has_85 (by decide) ?_
                  refine J_goto (tgt := 90) hC dX3_has_86 (by decide) ?_
                  refine J_sub [0, 1, 2, 3, 4, 5, 6] rfl ?_
                  exact hj _ ((if_pos c49).trans (if_neg c50)).symm
            refine J_if_ne (tgt := 69) hC dX3_has_61 (by decide) (fun c52 => ?_) (fun c52 => ?_)
            · refine J_iconst (v := 1) hC dX3_has_69 (by decide) ?_
              refine J_goto (tgt := 74) hC dX3_has_70 (by decide) ?_
              refine J_sub [0, 1, 2, 3, 4, 5, 6] rfl ?_
              exact hj _ (if_neg c52).symm
            · refine J_iload (j := 0) hC dX3_has_64 rfl ?_
              refine J_if_le (tgt := 73) hC dX3_has_66 (by decide) (fun c53 => ?_) (fun c53 => ?_)
              · refine J_iconst (v := 0) hC dX3_has_73 (by decide) ?_
                refine J_sub [0, 1, 2, 3, 4, 5, 6] rfl ?_
                exact hj _ ((if_pos c52).trans (if_pos c53)).symm
              · refine J_iconst (v := 1) hC dX3_has_69 (by decide) ?_
                refine J_goto (tgt := 74) hC dX3_has_70 (by decide) ?_
                refine J_sub [0, 1, 2, 3, 4, 5, 6] rfl ?_
                exact hj _ ((if_pos c52).trans (if_neg c53)).symm
          · have h := ite_t c39 h
            refine J_aload_n (j := 0) hC dX3_has_40 rfl ?_
            refine J_iload_n (j := 1) hC dX3_has_41 rfl ?_
            refine J_iload (j := 5) hC dX3_has_42 rfl ?_
            refine ck_c h (fun ho h => ?_)
            refine bnd_c h (fun w40 hw h => ?_)
            refine J_callV (As := [.int x1, .int x5]) (M' := M) (rv := some (Value.int w40)) (st := []) hC (fun l hl => cX3_signAt_ok M x0 x1 x5 _ hw l hl) vm_X3_signAt k_X3_44 ho ⟨rfl, rfl⟩ rfl ⟨Nat.le_of_ble_eq_true rfl, Nat.le_of_ble_eq_true rfl⟩ (Nat.zero_le _) ⟨Nat.le_of_ble_eq_true rfl, Nat.le_of_ble_eq_true rfl⟩ dX3_has_44 rfl ?_
            refine J_ineg hC dX3_has_47 ?_
            refine J_goto (tgt := 58) hC dX3_has_48 (by decide) ?_
            refine J_istore (lv' := [(6, .int (-w40)), (0, rf x0), (1, .int x1), (2, .int x2), (3, .int x3), (4, .int x4), (5, .int x5)]) hC dX3_has_58 (by decide) rfl ?_
            refine J_iload_n (j := 4) hC dX3_has_60 rfl ?_
            have hj : ∀ (z44 : Int32), z44 = (if x3 = 0 then (if (-w40) ≤ 0 then 0 else 1) else 1) → J C 0 0 M 74 [(6, .int (-w40)), (0, rf x0), (1, .int x1), (2, .int x2), (3, .int x3), (4, .int x4), (5, .int x5)] [.int z44] := by
              intro z44 ez44
              subst ez44
              refine J_istore_n (i := 3) (lv' := [(3, .int (if x3 = 0 then (if (-w40) ≤ 0 then 0 else 1) else 1)), (6, .int (-w40)), (0, rf x0), (1, .int x1), (2, .int x2), (4, .int x4), (5, .int x5)]) rfl hC dX3_has_74 (by decide) rfl ?_
              refine J_iload (j := 5) hC dX3_has_75 rfl ?_
              have hj : ∀ (z41 : Int32), z41 = (if x4 = 0 then (if 0 ≤ (-w40) then 0 else 1) else 1) → J C 0 0 M 90 [(3, .int (if x3 = 0 then (if (-w40) ≤ 0 then 0 else 1) else 1)), (6, .int (-w40)), (0, rf x0), (1, .int x1), (2, .int x2), (4, .int x4), (5, .int x5)] [.int z41] := by
                intro z41 ez41
                subst ez41
                refine J_istore (lv' := [(4, .int (if x4 = 0 then (if 0 ≤ (-w40) then 0 else 1) else 1)), (3, .int (if x3 = 0 then (if (-w40) ≤ 0 then 0 else 1) else 1)), (6, .int (-w40)), (0, rf x0), (1, .int x1), (2, .int x2), (5, .int x5)]) hC dX3_has_90 (by decide) rfl ?_
                refine J_inc (j := 6) (k := 1) (lv' := [(5, .int (x5 + 1)), (4, .int (if x4 = 0 then (if 0 ≤ (-w40) then 0 else 1) else 1)), (3, .int (if x3 = 0 then (if (-w40) ≤ 0 then 0 else 1) else 1)), (6, .int (-w40)), (0, rf x0), (1, .int x1), (2, .int x2)]) hC dX3_has_92 (by decide) rfl (by decide) rfl ?_
                refine J_goto (tgt := 8) hC dX3_has_95 (by decide) ?_
                refine J_sub [4, 5, 6, 2, 1, 0] rfl ?_
                exact ih (if x3 = 0 then (if (-w40) ≤ 0 then 0 else 1) else 1) (if x4 = 0 then (if 0 ≤ (-w40) then 0 else 1) else 1) (x5 + 1) h
              refine J_if_ne (tgt := 85) hC dX3_has_77 (by decide) (fun c42 => ?_) (fun c42 => ?_)
              · refine J_iconst (v := 1) hC dX3_has_85 (by decide) ?_
                refine J_goto (tgt := 90) hC dX3_has_86 (by decide) ?_
                refine J_sub [0, 1, 2, 3, 4, 5, 6] rfl ?_
                exact hj _ (if_neg c42).symm
              · refine J_iload (j := 1) hC dX3_has_80 rfl ?_
                refine J_if_ge (tgt := 89) hC dX3_has_82 (by decide) (fun c43 => ?_) (fun c43 => ?_)
                · refine J_iconst (v := 0) hC dX3_has_89 (by decide) ?_
                  refine J_sub [0, 1, 2, 3, 4, 5, 6] rfl ?_
                  exact hj _ ((if_pos c42).trans (if_pos c43)).symm
                · refine J_iconst (v := 1) hC dX3_has_85 (by decide) ?_
                  refine J_goto (tgt := 90) hC dX3_has_86 (by decide) ?_
                  refine J_sub [0, 1, 2, 3, 4, 5, 6] rfl ?_
                  exact hj _ ((if_pos c42).trans (if_neg c43)).symm
            refine J_if_ne (tgt := 69) hC dX3_has_61 (by decide) (fun c45 => ?_) (fun c45 => ?_)
            · refine J_iconst (v := 1) hC dX3_has_69 (by decide) ?_
              refine J_goto (tgt := 74) hC dX3_has_70 (by decide) ?_
              refine J_sub [0, 1, 2, 3, 4, 5, 6] rfl ?_
              exact hj _ (if_neg c45).symm
            · refine J_iload (j := 0) hC dX3_has_64 rfl ?_
              refine J_if_le (tgt := 73) hC dX3_has_66 (by decide) (fun c46 => ?_) (fun c46 => ?_)
              · refine J_iconst (v := 0) hC dX3_has_73 (by decide) ?_
                refine J_sub [0, 1, 2, 3, 4, 5, 6] rfl ?_
                exact hj _ ((if_pos c45).trans (if_pos c46)).symm
              · refine J_iconst (v := 1) hC dX3_has_69 (by decide) ?_
                refine J_goto (tgt := 74) hC dX3_has_70 (by decide) ?_
                refine J_sub [0, 1, 2, 3, 4, 5, 6] rfl ?_
                exact hj _ ((if_pos c45).trans (if_neg c46)).symm
      · have h := ite_t c2 h
        refine J_iload (j := 5) hC dX3_has_19 rfl ?_
        refine J_if_le (tgt := 28) hC dX3_has_21 (by decide) (fun c3 => ?_) (fun c3 => ?_)
        · have h := ite_t c3 h
          refine J_iload_n (j := 2) hC dX3_has_28 rfl ?_
          refine J_if_ge (tgt := 51) hC dX3_has_29 (by decide) (fun c4 => ?_) (fun c4 => ?_)
          · have h := ite_t c4 h
            refine J_aload_n (j := 0) hC dX3_has_51 rfl ?_
            refine J_iload_n (j := 1) hC dX3_has_52 rfl ?_
            refine J_iload (j := 5) hC dX3_has_53 rfl ?_
            refine ck_c h (fun ho h => ?_)
            refine bnd_c h (fun w5 hw h => ?_)
            refine J_callV (As := [.int x1, .int x5]) (M' := M) (rv := some (Value.int w5)) (st := []) hC (fun l hl => cX3_signAt_ok M x0 x1 x5 _ hw l hl) vm_X3_signAt k_X3_44 ho ⟨rfl, rfl⟩ rfl ⟨Nat.le_of_ble_eq_true rfl, Nat.le_of_ble_eq_true rfl⟩ (Nat.zero_le _) ⟨Nat.le_of_ble_eq_true rfl, Nat.le_of_ble_eq_true rfl⟩ dX3_has_55 rfl ?_
            refine J_istore (lv' := [(6, .int w5), (0, rf x0), (1, .int x1), (2, .int x2), (3, .int x3), (4, .int x4), (5, .int x5)]) hC dX3_has_58 (by decide) rfl ?_
            refine J_iload_n (j := 4) hC dX3_has_60 rfl ?_
            have hj : ∀ (z9 : Int32), z9 = (if x3 = 0 then (if w5 ≤ 0 then 0 else 1) else 1) → J C 0 0 M 74 [(6, .int w5), (0, rf x0), (1, .int x1), (2, .int x2), (3, .int x3), (4, .int x4), (5, .int x5)] [.int z9] := by
              intro z9 ez9
              subst ez9
              refine J_istore_n (i := 3) (lv' := [(3, .int (if x3 = 0 then (if w5 ≤ 0 then 0 else 1) else 1)), (6, .int w5), (0, rf x0), (1, .int x1), (2, .int x2), (4, .int x4), (5, .int x5)]) rfl hC dX3_has_74 (by decide) rfl ?_
              refine J_iload (j := 5) hC dX3_has_75 rfl ?_
              have hj : ∀ (z6 : Int32), z6 = (if x4 = 0 then (if 0 ≤ w5 then 0 else 1) else 1) → J C 0 0 M 90 [(3, .int (if x3 = 0 then (if w5 ≤ 0 then 0 else 1) else 1)), (6, .int w5), (0, rf x0), (1, .int x1), (2, .int x2), (4, .int x4), (5, .int x5)] [.int z6] := by
                intro z6 ez6
                subst ez6
                refine J_istore (lv' := [(4, .int (if x4 = 0 then (if 0 ≤ w5 then 0 else 1) else 1)), (3, .int (if x3 = 0 then (if w5 ≤ 0 then 0 else 1) else 1)), (6, .int w5), (0, rf x0), (1, .int x1), (2, .int x2), (5, .int x5)]) hC dX3_has_90 (by decide) rfl ?_
                refine J_inc (j := 6) (k := 1) (lv' := [(5, .int (x5 + 1)), (4, .int (if x4 = 0 then (if 0 ≤ w5 then 0 else 1) else 1)), (3, .int (if x3 = 0 then (if w5 ≤ 0 then 0 else 1) else 1)), (6, .int w5), (0, rf x0), (1, .int x1), (2, .int x2)]) hC dX3_has_92 (by decide) rfl (by decide) rfl ?_
                refine J_goto (tgt := 8) hC dX3_has_95 (by decide) ?_
                refine J_sub [4, 5, 6, 2, 1, 0] rfl ?_
                exact ih (if x3 = 0 then (if w5 ≤ 0 then 0 else 1) else 1) (if x4 = 0 then (if 0 ≤ w5 then 0 else 1) else 1) (x5 + 1) h
              refine J_if_ne (tgt := 85) hC dX3_has_77 (by decide) (fun c7 => ?_) (fun c7 => ?_)
              · refine J_iconst (v := 1) hC dX3_has_85 (by decide) ?_
                refine J_goto (tgt := 90) hC dX3_has_86 (by decide) ?_
                refine J_sub [0, 1, 2, 3, 4, 5, 6] rfl ?_
                exact hj _ (if_neg c7).symm
              · refine J_iload (j := 1) hC dX3_has_80 rfl ?_
                refine J_if_ge (tgt := 89) hC dX3_has_82 (by decide) (fun c8 => ?_) (fun c8 => ?_)
                · refine J_iconst (v := 0) hC dX3_has_89 (by decide) ?_
                  refine J_sub [0, 1, 2, 3, 4, 5, 6] rfl ?_
                  exact hj _ ((if_pos c7).trans (if_pos c8)).symm
                · refine J_iconst (v := 1) hC dX3_has_85 (by decide) ?_
                  refine J_goto (tgt := 90) hC dX3_has_86 (by decide) ?_
                  refine J_sub [0, 1, 2, 3, 4, 5, 6] rfl ?_
                  exact hj _ ((if_pos c7).trans (if_neg c8)).symm
            refine J_if_ne (tgt := 69) hC dX3_has_61 (by decide) (fun c10 => ?_) (fun c10 => ?_)
            · refine J_iconst (v := 1) hC dX3_has_69 (by decide) ?_
              refine J_goto (tgt := 74) hC dX3_has_70 (by decide) ?_
              refine J_sub [0, 1, 2, 3, 4, 5, 6] rfl ?_
              exact hj _ (if_neg c10).symm
            · refine J_iload (j := 0) hC dX3_has_64 rfl ?_
              refine J_if_le (tgt := 73) hC dX3_has_66 (by decide) (fun c11 => ?_) (fun c11 => ?_)
              · refine J_iconst (v := 0) hC dX3_has_73 (by decide) ?_
                refine J_sub [0, 1, 2, 3, 4, 5, 6] rfl ?_
                exact hj _ ((if_pos c10).trans (if_pos c11)).symm
              · refine J_iconst (v := 1) hC dX3_has_69 (by decide) ?_
                refine J_goto (tgt := 74) hC dX3_has_70 (by decide) ?_
                refine J_sub [0, 1, 2, 3, 4, 5, 6] rfl ?_
                exact hj _ ((if_pos c10).trans (if_neg c11)).symm
          · have h := ite_f c4 h
            refine J_iload (j := 5) hC dX3_has_32 rfl ?_
            refine J_iconst (v := 2) hC dX3_has_34 (by decide) ?_
            refine J_irem hC dX3_has_35 (by decide) ?_
            refine J_iconst (v := 1) hC dX3_has_36 (by decide) ?_
            refine J_icmp_ne (tgt := 51) hC dX3_has_37 (by decide) (fun c12 => ?_) (fun c12 => ?_)
            · have h := ite_f c12 h
              refine J_aload_n (j := 0) hC dX3_has_51 rfl ?_
              refine J_iload_n (j := 1) hC dX3_has_52 rfl ?_
              refine J_iload (j := 5) hC dX3_has_53 rfl ?_
              refine ck_c h (fun ho h => ?_)
              refine bnd_c h (fun w20 hw h => ?_)
              refine J_callV (As := [.int x1, .int x5]) (M' := M) (rv := some (Value.int w20)) (st := []) hC (fun l hl => cX3_signAt_ok M x0 x1 x5 _ hw l hl) vm_X3_signAt k_X3_44 ho ⟨rfl, rfl⟩ rfl ⟨Nat.le_of_ble_eq_true rfl, Nat.le_of_ble_eq_true rfl⟩ (Nat.zero_le _) ⟨Nat.le_of_ble_eq_true rfl, Nat.le_of_ble_eq_true rfl⟩ dX3_has_55 rfl ?_
              refine J_istore (lv' := [(6, .int w20), (0, rf x0), (1, .int x1), (2, .int x2), (3, .int x3), (4, .int x4), (5, .int x5)]) hC dX3_has_58 (by decide) rfl ?_
              refine J_iload_n (j := 4) hC dX3_has_60 rfl ?_
              have hj : ∀ (z24 : Int32), z24 = (if x3 = 0 then (if w20 ≤ 0 then 0 else 1) else 1) → J C 0 0 M 74 [(6, .int w20), (0, rf x0), (1, .int x1), (2, .int x2), (3, .int x3), (4, .int x4), (5, .int x5)] [.int z24] := by
                intro z24 ez24
                subst ez24
                refine J_istore_n (i := 3) (lv' := [(3, .int (if x3 = 0 then (if w20 ≤ 0 then 0 else 1) else 1)), (6, .int w20), (0, rf x0), (1, .int x1), (2, .int x2), (4, .int x4), (5, .int x5)]) rfl hC dX3_has_74 (by decide) rfl ?_
                refine J_iload (j := 5) hC dX3_has_75 rfl ?_
                have hj : ∀ (z21 : Int32), z21 = (if x4 = 0 then (if 0 ≤ w20 then 0 else 1) else 1) → J C 0 0 M 90 [(3, .int (if x3 = 0 then (if w20 ≤ 0 then 0 else 1) else 1)), (6, .int w20), (0, rf x0), (1, .int x1), (2, .int x2), (4, .int x4), (5, .int x5)] [.int z21] := by
                  intro z21 ez21
                  subst ez21
                  refine J_istore (lv' := [(4, .int (if x4 = 0 then (if 0 ≤ w20 then 0 else 1) else 1)), (3, .int (if x3 = 0 then (if w20 ≤ 0 then 0 else 1) else 1)), (6, .int w20), (0, rf x0), (1, .int x1), (2, .int x2), (5, .int x5)]) hC dX3_has_90 (by decide) rfl ?_
                  refine J_inc (j := 6) (k := 1) (lv' := [(5, .int (x5 + 1)), (4, .int (if x4 = 0 then (if 0 ≤ w20 then 0 else 1) else 1)), (3, .int (if x3 = 0 then (if w20 ≤ 0 then 0 else 1) else 1)), (6, .int w20), (0, rf x0), (1, .int x1), (2, .int x2)]) hC dX3_has_92 (by decide) rfl (by decide) rfl ?_
                  refine J_goto (tgt := 8) hC dX3_has_95 (by decide) ?_
                  refine J_sub [4, 5, 6, 2, 1, 0] rfl ?_
                  exact ih (if x3 = 0 then (if w20 ≤ 0 then 0 else 1) else 1) (if x4 = 0 then (if 0 ≤ w20 then 0 else 1) else 1) (x5 + 1) h
                refine J_if_ne (tgt := 85) hC dX3_has_77 (by decide) (fun c22 => ?_) (fun c22 => ?_)
                · refine J_iconst (v := 1) hC dX3_has_85 (by decide) ?_
                  refine J_goto (tgt := 90) hC dX3_has_86 (by decide) ?_
                  refine J_sub [0, 1, 2, 3, 4, 5, 6] rfl ?_
                  exact hj _ (if_neg c22).symm
                · refine J_iload (j := 1) hC dX3_has_80 rfl ?_
                  refine J_if_ge (tgt := 89) hC dX3_has_82 (by decide) (fun c23 => ?_) (fun c23 => ?_)
                  · refine J_iconst (v := 0) hC dX3_has_89 (by decide) ?_
                    refine J_sub [0, 1, 2, 3, 4, 5, 6] rfl ?_
                    exact hj _ ((if_pos c22).trans (if_pos c23)).symm
                  · refine J_iconst (v := 1) hC dX3_has_85 (by decide) ?_
                    refine J_goto (tgt := 90) hC dX3_has_86 (by decide) ?_
                    refine J_sub [0, 1, 2, 3, 4, 5, 6] rfl ?_
                    exact hj _ ((if_pos c22).trans (if_neg c23)).symm
              refine J_if_ne (tgt := 69) hC dX3_has_61 (by decide) (fun c25 => ?_) (fun c25 => ?_)
              · refine J_iconst (v := 1) hC dX3_has_69 (by decide) ?_
                refine J_goto (tgt := 74) hC dX3_has_70 (by decide) ?_
                refine J_sub [0, 1, 2, 3, 4, 5, 6] rfl ?_
                exact hj _ (if_neg c25).symm
              · refine J_iload (j := 0) hC dX3_has_64 rfl ?_
                refine J_if_le (tgt := 73) hC dX3_has_66 (by decide) (fun c26 => ?_) (fun c26 => ?_)
                · refine J_iconst (v := 0) hC dX3_has_73 (by decide) ?_
                  refine J_sub [0, 1, 2, 3, 4, 5, 6] rfl ?_
                  exact hj _ ((if_pos c25).trans (if_pos c26)).symm
                · refine J_iconst (v := 1) hC dX3_has_69 (by decide) ?_
                  refine J_goto (tgt := 74) hC dX3_has_70 (by decide) ?_
                  refine J_sub [0, 1, 2, 3, 4, 5, 6] rfl ?_
                  exact hj _ ((if_pos c25).trans (if_neg c26)).symm
            · have h := ite_t c12 h
              refine J_aload_n (j := 0) hC dX3_has_40 rfl ?_
              refine J_iload_n (j := 1) hC dX3_has_41 rfl ?_
              refine J_iload (j := 5) hC dX3_has_42 rfl ?_
              refine ck_c h (fun ho h => ?_)
              refine bnd_c h (fun w13 hw h => ?_)
              refine J_callV (As := [.int x1, .int x5]) (M' := M) (rv := some (Value.int w13)) (st := []) hC (fun l hl => cX3_signAt_ok M x0 x1 x5 _ hw l hl) vm_X3_signAt k_X3_44 ho ⟨rfl, rfl⟩ rfl ⟨Nat.le_of_ble_eq_true rfl, Nat.le_of_ble_eq_true rfl⟩ (Nat.zero_le _) ⟨Nat.le_of_ble_eq_true rfl, Nat.le_of_ble_eq_true rfl⟩ dX3_has_44 rfl ?_
              refine J_ineg hC dX3_has_47 ?_
              refine J_goto (tgt := 58) hC dX3_has_48 (by decide) ?_
              refine J_istore (lv' := [(6, .int (-w13)), (0, rf x0), (1, .int x1), (2, .int x2), (3, .int x3), (4, .int x4), (5, .int x5)]) hC dX3_has_58 (by decide) rfl ?_
              refine J_iload_n (j := 4) hC dX3_has_60 rfl ?_
              have hj : ∀ (z17 : Int32), z17 = (if x3 = 0 then (if (-w13) ≤ 0 then 0 else 1) else 1) → J C 0 0 M 74 [(6, .int (-w13)), (0, rf x0), (1, .int x1), (2, .int x2), (3, .int x3), (4, .int x4), (5, .int x5)] [.int z17] := by
                intro z17 ez17
                subst ez17
                refine J_istore_n (i := 3) (lv' := [(3, .int (if x3 = 0 then (if (-w13) ≤ 0 then 0 else 1) else 1)), (6, .int (-w13)), (0, rf x0), (1, .int x1), (2, .int x2), (4, .int x4), (5, .int x5)]) rfl hC dX3_has_74 (by decide) rfl ?_
                refine J_iload (j := 5) hC dX3_has_75 rfl ?_
                have hj : ∀ (z14 : Int32), z14 = (if x4 = 0 then (if 0 ≤ (-w13) then 0 else 1) else 1) → J C 0 0 M 90 [(3, .int (if x3 = 0 then (if (-w13) ≤ 0 then 0 else 1) else 1)), (6, .int (-w13)), (0, rf x0), (1, .int x1), (2, .int x2), (4, .int x4), (5, .int x5)] [.int z14] := by
                  intro z14 ez14
                  subst ez14
                  refine J_istore (lv' := [(4, .int (if x4 = 0 then (if 0 ≤ (-w13) then 0 else 1) else 1)), (3, .int (if x3 = 0 then (if (-w13) ≤ 0 then 0 else 1) else 1)), (6, .int (-w13)), (0, rf x0), (1, .int x1), (2, .int x2), (5, .int x5)]) hC dX3_has_90 (by decide) rfl ?_
                  refine J_inc (j := 6) (k := 1) (lv' := [(5, .int (x5 + 1)), (4, .int (if x4 = 0 then (if 0 ≤ (-w13) then 0 else 1) else 1)), (3, .int (if x3 = 0 then (if (-w13) ≤ 0 then 0 else 1) else 1)), (6, .int (-w13)), (0, rf x0), (1, .int x1), (2, .int x2)]) hC dX3_has_92 (by decide) rfl (by decide) rfl ?_
                  refine J_goto (tgt := 8) hC dX3_has_95 (by decide) ?_
                  refine J_sub [4, 5, 6, 2, 1, 0] rfl ?_
                  exact ih (if x3 = 0 then (if (-w13) ≤ 0 then 0 else 1) else 1) (if x4 = 0 then (if 0 ≤ (-w13) then 0 else 1) else 1) (x5 + 1) h
                refine J_if_ne (tgt := 85) hC dX3_has_77 (by decide) (fun c15 => ?_) (fun c15 => ?_)
                · refine J_iconst (v := 1) hC dX3_has_85 (by decide) ?_
                  refine J_goto (tgt := 90) hC dX3_has_86 (by decide) ?_
                  refine J_sub [0, 1, 2, 3, 4, 5, 6] rfl ?_
                  exact hj _ (if_neg c15).symm
                · refine J_iload (j := 1) hC dX3_has_80 rfl ?_
                  refine J_if_ge (tgt := 89) hC dX3_has_82 (by decide) (fun c16 => ?_) (fun c16 => ?_)
                  · refine J_iconst (v := 0) hC dX3_has_89 (by decide) ?_
                    refine J_sub [0, 1, 2, 3, 4, 5, 6] rfl ?_
                    exact hj _ ((if_pos c15).trans (if_pos c16)).symm
                  · refine J_iconst (v := 1) hC dX3_has_85 (by decide) ?_
                    refine J_goto (tgt := 90) hC dX3_has_86 (by decide) ?_
                    refine J_sub [0, 1, 2, 3, 4, 5, 6] rfl ?_
                    exact hj _ ((if_pos c15).trans (if_neg c16)).symm
              refine J_if_ne (tgt := 69) hC dX3_has_61 (by decide) (fun c18 => ?_) (fun c18 => ?_)
              · refine J_iconst (v := 1) hC dX3_has_69 (by decide) ?_
                refine J_goto (tgt := 74) hC dX3_has_70 (by decide) ?_
                refine J_sub [0, 1, 2, 3, 4, 5, 6] rfl ?_
                exact hj _ (if_neg c18).symm
              · refine J_iload (j := 0) hC dX3_has_64 rfl ?_
                refine J_if_le (tgt := 73) hC dX3_has_66 (by decide) (fun c19 => ?_) (fun c19 => ?_)
                · refine J_iconst (v := 0) hC dX3_has_73 (by decide) ?_
                  refine J_sub [0, 1, 2, 3, 4, 5, 6] rfl ?_
                  exact hj _ ((if_pos c18).trans (if_pos c19)).symm
                · refine J_iconst (v := 1) hC dX3_has_69 (by decide) ?_
                  refine J_goto (tgt := 74) hC dX3_has_70 (by decide) ?_
                  refine J_sub [0, 1, 2, 3, 4, 5, 6] rfl ?_
                  exact hj _ ((if_pos c18).trans (if_neg c19)).symm
        · have h := ite_f c3 h
          refine J_iconst (v := 0) hC dX3_has_24 (by decide) ?_
          refine J_goto (tgt := 58) hC dX3_has_25 (by decide) ?_
          refine J_istore (lv' := [(6, .int 0), (0, rf x0), (1, .int x1), (2, .int x2), (3, .int x3), (4, .int x4), (5, .int x5)]) hC dX3_has_58 (by decide) rfl ?_
          refine J_iload_n (j := 4) hC dX3_has_60 rfl ?_
          have hj : ∀ (z29 : Int32), z29 = (if x3 = 0 then 0 else 1) → J C 0 0 M 74 [(6, .int 0), (0, rf x0), (1, .int x1), (2, .int x2), (3, .int x3), (4, .int x4), (5, .int x5)] [.int z29] := by
            intro z29 ez29
            subst ez29
            refine J_istore_n (i := 3) (lv' := [(3, .int (if x3 = 0 then 0 else 1)), (6, .int 0), (0, rf x0), (1, .int x1), (2, .int x2), (4, .int x4), (5, .int x5)]) rfl hC dX3_has_74 (by decide) rfl ?_
            refine J_iload (j := 5) hC dX3_has_75 rfl ?_
            have hj : ∀ (z27 : Int32), z27 = (if x4 = 0 then 0 else 1) → J C 0 0 M 90 [(3, .int (if x3 = 0 then 0 else 1)), (6, .int 0), (0, rf x0), (1, .int x1), (2, .int x2), (4, .int x4), (5, .int x5)] [.int z27] := by
              intro z27 ez27
              subst ez27
              refine J_istore (lv' := [(4, .int (if x4 = 0 then 0 else 1)), (3, .int (if x3 = 0 then 0 else 1)), (6, .int 0), (0, rf x0), (1, .int x1), (2, .int x2), (5, .int x5)]) hC dX3_has_90 (by decide) rfl ?_
              refine J_inc (j := 6) (k := 1) (lv' := [(5, .int (x5 + 1)), (4, .int (if x4 = 0 then 0 else 1)), (3, .int (if x3 = 0 then 0 else 1)), (6, .int 0), (0, rf x0), (1, .int x1), (2, .int x2)]) hC dX3_has_92 (by decide) rfl (by decide) rfl ?_
              refine J_goto (tgt := 8) hC dX3_has_95 (by decide) ?_
              refine J_sub [4, 5, 6, 2, 1, 0] rfl ?_
              exact ih (if x3 = 0 then 0 else 1) (if x4 = 0 then 0 else 1) (x5 + 1) h
            refine J_if_ne (tgt := 85) hC dX3_has_77 (by decide) (fun c28 => ?_) (fun c28 => ?_)
            · refine J_iconst (v := 1) hC dX3_has_85 (by decide) ?_
              refine J_goto (tgt := 90) hC dX3_has_86 (by decide) ?_
              refine J_sub [0, 1, 2, 3, 4, 5, 6] rfl ?_
              exact hj _ (if_neg c28).symm
            · refine J_iload (j := 1) hC dX3_has_80 rfl ?_
              refine J_if_ge (tgt := 89) hC dX3_has_82 (by decide) (fun _ => ?_) (fun c => absurd (by decide) c)
              refine J_iconst (v := 0) hC dX3_has_89 (by decide) ?_
              refine J_sub [0, 1, 2, 3, 4, 5, 6] rfl ?_
              exact hj _ (if_pos c28).symm
          refine J_if_ne (tgt := 69) hC dX3_has_61 (by decide) (fun c30 => ?_) (fun c30 => ?_)
          · refine J_iconst (v := 1) hC dX3_has_69 (by decide) ?_
            refine J_goto (tgt := 74) hC dX3_has_70 (by decide) ?_
            refine J_sub [0, 1, 2, 3, 4, 5, 6] rfl ?_
            exact hj _ (if_neg c30).symm
          · refine J_iload (j := 0) hC dX3_has_64 rfl ?_
            refine J_if_le (tgt := 73) hC dX3_has_66 (by decide) (fun _ => ?_) (fun c => absurd (by decide) c)
            refine J_iconst (v := 0) hC dX3_has_73 (by decide) ?_
            refine J_sub [0, 1, 2, 3, 4, 5, 6] rfl ?_
            exact hj _ (if_pos c30).symm
set_option maxHeartbeats 4000000 in
set_option maxRecDepth 100000 in
theorem cX3_has_ok (M : Mem) (a0 : Option Nat) (a1 : Int32) (a2 : Int32) (r0 : Int32) (h : fX3_has M a0 a1 a2 = some r0) : ∀ l : Launch, l.stackTraces = false → Con false l yX3_has cX3_has 7 (some .boolean) rm_X3_has [rf a0, .int a1, .int a2] M (M, Sum.inr (some (Value.int r0))) := by
  intro l hst
  refine Con.enter hst (own := RX3) (by decide +kernel) rfl (by exact Nat.le_of_ble_eq_true rfl) (lv0 := [(0, rf a0), (1, .int a1), (2, .int a2)]) (rfl) (fun C hC hin => ?_)
  unfold fX3_has at h
  refine J_iconst (v := 0) hC dX3_has_0 (by decide) ?_
  refine J_istore_n (i := 3) (lv' := [(3, .int 0), (0, rf a0), (1, .int a1), (2, .int a2)]) rfl hC dX3_has_1 (by decide) rfl ?_
  refine J_iconst (v := 0) hC dX3_has_2 (by decide) ?_
  refine J_istore (lv' := [(4, .int 0), (3, .int 0), (0, rf a0), (1, .int a1), (2, .int a2)]) hC dX3_has_3 (by decide) rfl ?_
  refine J_iconst (v := 0) hC dX3_has_5 (by decide) ?_
  refine J_istore (lv' := [(5, .int 0), (4, .int 0), (3, .int 0), (0, rf a0), (1, .int a1), (2, .int a2)]) hC dX3_has_6 (by decide) rfl ?_
  refine J_sub [3, 4, 5, 2, 1, 0] rfl ?_
  refine tX3_has_8 M a0 a1 a2 hC _ (fun x54 x55 x56 h => ?_) FU 0 0 0 h
  · refine J_iload_n (j := 3) hC dX3_has_98 rfl ?_
    refine J_iload (j := 4) hC dX3_has_99 rfl ?_
    have hj : ∀ (z57 : Int32), z57 = (if x54 = x55 then 1 else 0) → J C 0 0 M 109 [(0, rf a0), (1, .int a1), (2, .int a2), (3, .int x54), (4, .int x55), (5, .int x56)] [.int z57] := by
      intro z57 ez57
      subst ez57
      exact J_zret hC dX3_has_109 (by (repeat' split) <;> decide) (by have h9 := Option.some.inj h; subst h9; rfl) (Nat.le_of_ble_eq_true rfl) (Nat.le_of_ble_eq_true rfl)
    refine J_icmp_ne (tgt := 108) hC dX3_has_101 (by decide) (fun c58 => ?_) (fun c58 => ?_)
    · refine J_iconst (v := 0) hC dX3_has_108 (by decide) ?_
      refine J_sub [0, 1, 2, 3, 4, 5] rfl ?_
      exact hj _ (if_neg c58).symm
    · refine J_iconst (v := 1) hC dX3_has_104 (by decide) ?_
      refine J_goto (tgt := 109) hC dX3_has_105 (by decide) ?_
      refine J_sub [0, 1, 2, 3, 4, 5] rfl ?_
      exact hj _ (if_pos c58).symm
