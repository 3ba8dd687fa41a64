abbrev rm_X1_init : Room := { frames := 1, cells := 7, slots := 58, locals := 20 }

set_option maxHeartbeats 4000000 in
set_option maxRecDepth 100000 in
theorem tX1_init_40 {C : JC} {r0 : Mem} (x0 : Option Nat) (hC : Ok C false cX1_init 2 rm_X1_init none RX1 (r0, Sum.inr none))  (k60 : Mem → Int32 → Option (Mem)) (hk60 : ∀ (M : Mem) (x1 : Int32), k60 M x1 = some r0 → J C 7 58 M 60 [(0, rf x0), (1, .int x1)] []) : ∀ (n : Nat) (M : Mem) (x1 : Int32), fX1_init_40 x0 k60 n M x1 = some r0 → J C 7 58 M 40 [(0, rf x0), (1, .int x1)] [] := by
  intro n
  induction n with
  | zero => intro M x1 h; have h : none = some r0 := h; cases h
  | succ n ih =>
    intro M x1 h
    rw [fX1_init_40] at h
    refine J_iload_n (j := 1) hC dX1_init_40 rfl ?_
    refine J_iconst (v := 5) hC dX1_init_41 (by decide) ?_
    refine J_icmp_ge (tgt := 60) hC dX1_init_42 (by decide) (fun c8 => ?_) (fun c8 => ?_)
    · have h := ite_t c8 h
      refine J_sub [0, 1] rfl ?_
      exact hk60 M x1 h
    · have h := ite_f c8 h
      refine J_aload_n (j := 0) hC dX1_init_45 rfl ?_
      refine J_g1_0 hC k_X1_11 dX1_init_46 h (fun v9 _ h => ?_)
      refine J_iload_n (j := 1) hC dX1_init_49 rfl ?_
      refine J_aald9 hC dX1_init_50 h (fun v10 _ h => ?_)
      refine J_iconst (v := 0) hC dX1_init_51 (by decide) ?_
      refine J_iconst (v := 1) hC dX1_init_52 (by decide) ?_
      refine J_iast hC dX1_init_53 h (fun M11 _ h => ?_)
      refine J_inc (j := 1) (k := 1) (lv' := [(1, .int (x1 + 1)), (0, rf x0)]) hC dX1_init_54 (by decide) rfl (by decide) rfl ?_
      refine J_goto (tgt := 40) hC dX1_init_57 (by decide) ?_
      refine J_sub [1, 0] rfl ?_
      exact ih M11 (x1 + 1) h
set_option maxHeartbeats 4000000 in
set_option maxRecDepth 100000 in
theorem cX1_init_ok (M : Mem) (a0 : Option Nat) (r0 : Mem) (h : fX1_init M a0 = some r0) : ∀ l : Launch, l.stackTraces = false → Con false l yX1_init cX1_init 2 none rm_X1_init [rf a0] M (r0, Sum.inr none) := by
  intro l hst
  refine Con.enter hst (own := RX1) (by decide +kernel) rfl (by exact Nat.le_of_ble_eq_true rfl) (lv0 := [(0, rf a0)]) (rfl) (fun C hC hin => ?_)
  unfold fX1_init at h
  refine J_aload_n (j := 0) hC dX1_init_0 rfl ?_
  refine ck_c h (fun ho h => ?_)
  refine J_objInit hC k_X1_3 (ho.imp fun _ q => q.1) (Nat.le_of_ble_eq_true rfl) (Nat.le_of_ble_eq_true rfl) dX1_init_1 ?_
  refine J_aload_n (j := 0) hC dX1_init_4 rfl ?_
  refine J_iconst (v := 5) hC dX1_init_5 (by decide) ?_
  refine J_bipush (v := 9) hC dX1_init_6 (by decide) ?_
  refine J_multi hC k_X1_9 (Nat.le_of_ble_eq_true rfl) (Nat.le_of_ble_eq_true rfl) dX1_init_8 h (fun M1 _ h => ?_)
  refine J_p1_0 hC (hin rfl) rfl k_X1_11 dX1_init_12 h (fun M2 _ h => ?_)
  refine J_aload_n (j := 0) hC dX1_init_15 rfl ?_
  refine J_bipush (v := 8) hC dX1_init_16 (by decide) ?_
  refine J_newa4 (n' := 8) hC (by decide) (by decide) (Nat.le_of_ble_eq_true rfl) (Nat.le_of_ble_eq_true rfl) dX1_init_18 h (fun M3 _ h => ?_)
  refine J_p1_1 hC (hin rfl) rfl k_X1_16 dX1_init_20 h (fun M4 _ h => ?_)
  refine J_aload_n (j := 0) hC dX1_init_23 rfl ?_
  refine J_iconst (v := 0) hC dX1_init_24 (by decide) ?_
  refine J_p1_2 hC k_X1_20 dX1_init_25 h (fun M5 _ h => ?_)
  refine J_aload_n (j := 0) hC dX1_init_28 rfl ?_
  refine J_iconst (v := 0) hC dX1_init_29 (by decide) ?_
  refine J_p1_3 hC k_X1_24 dX1_init_30 h (fun M6 _ h => ?_)
  refine J_aload_n (j := 0) hC dX1_init_33 rfl ?_
  refine J_iconst (v := 0) hC dX1_init_34 (by decide) ?_
  refine J_p1_4 hC k_X1_27 dX1_init_35 h (fun M7 _ h => ?_)
  refine J_iconst (v := 0) hC dX1_init_38 (by decide) ?_
  refine J_istore_n (i := 1) (lv' := [(1, .int 0), (0, rf a0)]) rfl hC dX1_init_39 (by decide) rfl ?_
  refine J_sub [1, 0] rfl ?_
  refine tX1_init_40 a0 hC _ (fun M12 x13 h => ?_) FU M7 0 h
  · exact J_vret hC dX1_init_60 (by have h9 := Option.some.inj h; subst h9; rfl) (Nat.le_of_ble_eq_true rfl) (Nat.le_of_ble_eq_true rfl)
abbrev rm_XT_init : Room := { frames := 1, cells := 1, slots := 1231, locals := 20 }

set_option maxHeartbeats 4000000 in
set_option maxRecDepth 100000 in
theorem cXT_init_ok (M : Mem) (a0 : Option Nat) (r0 : Mem) (h : fXT_init M a0 = some r0) : ∀ l : Launch, l.stackTraces = false → Con false l yXT_init cXT_init 1 none rm_XT_init [rf a0] M (r0, Sum.inr none) := by
  intro l hst
  refine Con.enter hst (own := RXT) (by decide +kernel) rfl (by exact Nat.le_of_ble_eq_true rfl) (lv0 := [(0, rf a0)]) (rfl) (fun C hC hin => ?_)
  unfold fXT_init at h
  refine J_aload_n (j := 0) hC dXT_init_0 rfl ?_
  refine ck_c h (fun ho h => ?_)
  refine J_objInit hC k_XT_5 (ho.imp fun _ q => q.1) (Nat.le_of_ble_eq_true rfl) (Nat.le_of_ble_eq_true rfl) dXT_init_1 ?_
  refine J_aload_n (j := 0) hC dXT_init_4 rfl ?_
  refine J_sipush (v := 1231) hC dXT_init_5 (by decide) ?_
  refine J_newa5 (n' := 1231) hC (by decide) (by decide) (Nat.le_of_ble_eq_true rfl) (Nat.le_of_ble_eq_true rfl) dXT_init_8 h (fun M1 _ h => ?_)
  refine J_p11_0 hC (hin rfl) rfl k_XT_11 dXT_init_10 h (fun M2 _ h => ?_)
  exact J_vret hC dXT_init_13 (by have h9 := Option.some.inj h; subst h9; rfl) (Nat.le_of_ble_eq_true rfl) (Nat.le_of_ble_eq_true rfl)
abbrev rm_X0_init : Room := { frames := 1, cells := 3, slots := 27, locals := 20 }

set_option maxHeartbeats 4000000 in
set_option maxRecDepth 100000 in
theorem cX0_init_ok (M : Mem) (a0 : Option Nat) (r0 : Mem) (h : fX0_init M a0 = some r0) : ∀ l : Launch, l.stackTraces = false → Con false l yX0_init cX0_init 1 none rm_X0_init [rf a0] M (r0, Sum.inr none) := by
  intro l hst
  refine Con.enter hst (own := RX0) (by decide +kernel) rfl (by exact Nat.le_of_ble_eq_true rfl) (lv0 := [(0, rf a0)]) (rfl) (fun C hC hin => ?_)
  unfold fX0_init at h
  refine J_aload_n (j := 0) hC dX0_init_0 rfl ?_
  refine ck_c h (fun ho h => ?_)
  refine J_objInit hC k_X0_3 (ho.imp fun _ q => q.1) (Nat.le_of_ble_eq_true rfl) (Nat.le_of_ble_eq_true rfl) dX0_init_1 ?_
  refine J_aload_n (j := 0) hC dX0_init_4 rfl ?_
  refine J_bipush (v := 9) hC dX0_init_5 (by decide) ?_
  refine J_newa4 (n' := 9) hC (by decide) (by decide) (Nat.le_of_ble_eq_true rfl) (Nat.le_of_ble_eq_true rfl) dX0_init_7 h (fun M1 _ h => ?_)
  refine J_p0_0 hC (hin rfl) rfl k_X0_9 dX0_init_9 h (fun M2 _ h => ?_)
  refine J_aload_n (j := 0) hC dX0_init_12 rfl ?_
  refine J_bipush (v := 9) hC dX0_init_13 (by decide) ?_
  refine J_newa4 (n' := 9) hC (by decide) (by decide) (Nat.le_of_ble_eq_true rfl) (Nat.le_of_ble_eq_true rfl) dX0_init_15 h (fun M3 _ h => ?_)
  refine J_p0_1 hC (hin rfl) rfl k_X0_15 dX0_init_17 h (fun M4 _ h => ?_)
  refine J_aload_n (j := 0) hC dX0_init_20 rfl ?_
  refine J_bipush (v := 9) hC dX0_init_21 (by decide) ?_
  refine J_newa4 (n' := 9) hC (by decide) (by decide) (Nat.le_of_ble_eq_true rfl) (Nat.le_of_ble_eq_true rfl) dX0_init_23 h (fun M5 _ h => ?_)
  refine J_p0_2 hC (hin rfl) rfl k_X0_18 dX0_init_25 h (fun M6 _ h => ?_)
  refine J_aload_n (j := 0) hC dX0_init_28 rfl ?_
  refine J_iconst (v := 0) hC dX0_init_29 (by decide) ?_
  refine J_p0_3 hC k_X0_21 dX0_init_30 h (fun M7 _ h => ?_)
  refine J_aload_n (j := 0) hC dX0_init_33 rfl ?_
  refine J_iconst (v := (-1)) hC dX0_init_34 (by decide) ?_
  refine J_p0_4 hC k_X0_25 dX0_init_35 h (fun M8 _ h => ?_)
  refine J_aload_n (j := 0) hC dX0_init_38 rfl ?_
  refine J_iconst (v := (-1)) hC dX0_init_39 (by decide) ?_
  refine J_p0_5 hC k_X0_28 dX0_init_40 h (fun M9 _ h => ?_)
  exact J_vret hC dX0_init_43 (by have h9 := Option.some.inj h; subst h9; rfl) (Nat.le_of_ble_eq_true rfl) (Nat.le_of_ble_eq_true rfl)
abbrev rm_X2_init : Room := { frames := 2, cells := 116, slots := 2184, locals := 41 }

set_option maxHeartbeats 4000000 in
set_option maxRecDepth 100000 in
theorem cX2_init_ok (M : Mem) (a0 : Option Nat) (r0 : Mem) (h : fX2_init M a0 = some r0) : ∀ l : Launch, l.stackTraces = false → Con false l yX2_init cX2_init 2 none rm_X2_init [rf a0] M (r0, Sum.inr none) := by
  intro l hst
  refine Con.enter hst (own := RX2) (by decide +kernel) rfl (by exact Nat.le_of_ble_eq_true rfl) (lv0 := [(0, rf a0)]) (rfl) (fun C hC hin => ?_)
  unfold fX2_init at h
  refine J_aload_n (j := 0) hC dX2_init_0 rfl ?_
  refine ck_c h (fun ho h => ?_)
  refine J_objInit hC k_X2_3 (ho.imp fun _ q => q.1) (Nat.le_of_ble_eq_true rfl) (Nat.le_of_ble_eq_true rfl) dX2_init_1 ?_
  refine J_aload_n (j := 0) hC dX2_init_4 rfl ?_
  refine J_new1 hC k_X2_9 (Nat.le_of_ble_eq_true rfl) (Nat.le_of_ble_eq_true rfl) dX2_init_5 h (fun M1 _ h => ?_)
  refine J_dup hC dX2_init_8 rfl ?_
  refine bnd_c h (fun w2 hw h => ?_)
  refine J_callI (As := []) (M' := w2) (rv := none) (st := [rf (some M.1), rf a0]) hC (fun l hl => cX1_init_ok M1 (some M.1) _ hw l hl) im_X1_init k_X2_11 ⟨_, rfl⟩ rfl ⟨Nat.le_of_ble_eq_true rfl, Nat.le_of_ble_eq_true rfl⟩ (Nat.le_of_ble_eq_true rfl) ⟨Nat.le_of_ble_eq_true rfl, Nat.le_of_ble_eq_true rfl⟩ dX2_init_9 rfl ?_
  refine J_p2_0 hC (hin rfl) rfl k_X2_12 dX2_init_12 h (fun M3 _ h => ?_)
  refine J_aload_n (j := 0) hC dX2_init_15 rfl ?_
  refine J_bipush (v := 6) hC dX2_init_16 (by decide) ?_
  refine J_anew8 (n' := 6) hC k_X2_9 (by decide) (by decide) (Nat.le_of_ble_eq_true rfl) (Nat.le_of_ble_eq_true rfl) dX2_init_18 h (fun M4 _ h => ?_)
  refine J_p2_1 hC (hin rfl) rfl k_X2_16 dX2_init_21 h (fun M5 _ h => ?_)
  refine J_aload_n (j := 0) hC dX2_init_24 rfl ?_
  refine J_iconst (v := 0) hC dX2_init_25 (by decide) ?_
  refine J_p2_2 hC k_X2_20 dX2_init_26 h (fun M6 _ h => ?_)
  refine J_aload_n (j := 0) hC dX2_init_29 rfl ?_
  refine J_iconst (v := 2) hC dX2_init_30 (by decide) ?_
  refine J_anew8 (n' := 2) hC k_X2_9 (by decide) (by decide) (Nat.le_of_ble_eq_true rfl) (Nat.le_of_ble_eq_true rfl) dX2_init_31 h (fun M7 _ h => ?_)
  refine J_p2_3 hC (hin rfl) rfl k_X2_24 dX2_init_34 h (fun M8 _ h => ?_)
  refine J_aload_n (j := 0) hC dX2_init_37 rfl ?_
  refine J_iconst (v := 2) hC dX2_init_38 (by decide) ?_
  refine J_newa6 (n' := 2) hC (by decide) (by decide) (Nat.le_of_ble_eq_true rfl) (Nat.le_of_ble_eq_true rfl) dX2_init_39 h (fun M9 _ h => ?_)
  refine J_p2_4 hC (hin rfl) rfl k_X2_27 dX2_init_41 h (fun M10 _ h => ?_)
  refine J_aload_n (j := 0) hC dX2_init_44 rfl ?_
  refine J_bipush (v := 60) hC dX2_init_45 (by decide) ?_
  refine J_newa4 (n' := 60) hC (by decide) (by decide) (Nat.le_of_ble_eq_true rfl) (Nat.le_of_ble_eq_true rfl) dX2_init_47 h (fun M11 _ h => ?_)
  refine J_p2_5 hC (hin rfl) rfl k_X2_31 dX2_init_49 h (fun M12 _ h => ?_)
  refine J_aload_n (j := 0) hC dX2_init_52 rfl ?_
  refine J_iconst (v := 0) hC dX2_init_53 (by decide) ?_
  refine J_p2_6 hC k_X2_35 dX2_init_54 h (fun M13 _ h => ?_)
  refine J_aload_n (j := 0) hC dX2_init_57 rfl ?_
  refine J_bipush (v := 9) hC dX2_init_58 (by decide) ?_
  refine J_newa5 (n' := 9) hC (by decide) (by decide) (Nat.le_of_ble_eq_true rfl) (Nat.le_of_ble_eq_true rfl) dX2_init_60 h (fun M14 _ h => ?_)
  refine J_p2_7 hC (hin rfl) rfl k_X2_38 dX2_init_62 h (fun M15 _ h => ?_)
  refine J_aload_n (j := 0) hC dX2_init_65 rfl ?_
  refine J_bipush (v := 9) hC dX2_init_66 (by decide) ?_
  refine J_anew7 (n' := 9) hC k_X2_42 (by decide) (by decide) (Nat.le_of_ble_eq_true rfl) (Nat.le_of_ble_eq_true rfl) dX2_init_68 h (fun M16 _ h => ?_)
  refine J_p2_8 hC (hin rfl) rfl k_X2_44 dX2_init_71 h (fun M17 _ h => ?_)
  refine J_aload_n (j := 0) hC dX2_init_74 rfl ?_
  refine J_new11 hC k_X2_48 (Nat.le_of_ble_eq_true rfl) (Nat.le_of_ble_eq_true rfl) dX2_init_75 h (fun M18 _ h => ?_)
  refine J_dup hC dX2_init_78 rfl ?_
  refine bnd_c h (fun w19 hw h => ?_)
  refine J_callIN (As := []) (M' := w19) (rv := none) (st := [rf (some M17.1), rf a0]) hC (fun l hl => cXT_init_ok M18 (some M17.1) _ hw l hl) im_XT_init (fun U h => h.2.2.2) ⟨_, rfl⟩ rfl ⟨Nat.le_of_ble_eq_true rfl, Nat.le_of_ble_eq_true rfl⟩ (Nat.le_of_ble_eq_true rfl) ⟨Nat.le_of_ble_eq_true rfl, Nat.le_of_ble_eq_true rfl⟩ dX2_init_79 rfl ?_
  refine J_p2_9 hC (hin rfl) rfl k_X2_51 dX2_init_82 h (fun M20 _ h => ?_)
  refine J_iconst (v := 0) hC dX2_init_85 (by decide) ?_
  refine J_istore_n (i := 1) (lv' := [(1, .int 0), (0, rf a0)]) rfl hC dX2_init_86 (by decide) rfl ?_
  refine J_iload_n (j := 0) hC dX2_init_87 rfl ?_
  refine J_bipush (v := 6) hC dX2_init_88 (by decide) ?_
  refine J_icmp_ge (tgt := 112) hC dX2_init_90 (by decide) (fun c => absurd c (by decide)) (fun _ => ?_)
  refine J_aload_n (j := 1) hC dX2_init_93 rfl ?_
  refine J_g2_1 hC k_X2_16 dX2_init_94 h (fun v21 _ h => ?_)
  refine J_iload_n (j := 0) hC dX2_init_97 rfl ?_
  refine J_new1 hC k_X2_9 (Nat.le_of_ble_eq_true rfl) (Nat.le_of_ble_eq_true rfl) dX2_init_98 h (fun M22 _ h => ?_)
  refine J_dup hC dX2_init_101 rfl ?_
  refine bnd_c h (fun w23 hw h => ?_)
  refine J_callI (As := []) (M' := w23) (rv := none) (st := [rf (some M20.1), .int 0, rf v21]) hC (fun l hl => cX1_init_ok M22 (some M20.1) _ hw l hl) im_X1_init k_X2_11 ⟨_, rfl⟩ rfl ⟨Nat.le_of_ble_eq_true rfl, Nat.le_of_ble_eq_true rfl⟩ (Nat.le_of_ble_eq_true rfl) ⟨Nat.le_of_ble_eq_true rfl, Nat.le_of_ble_eq_true rfl⟩ dX2_init_102 rfl ?_
  refine J_aast8 hC dX2_init_105 h (fun M24 _ h => ?_)
  refine J_iinc (j := 0) (w := 1) (lv' := [(1, .int 1), (0, rf a0)]) hC dX2_init_106 (by decide) rfl (by decide) rfl ?_
  refine J_goto (tgt := 87) hC dX2_init_109 (by decide) ?_
  refine J_iload_n (j := 0) hC dX2_init_87 rfl ?_
  refine J_bipush (v := 6) hC dX2_init_88 (by decide) ?_
  refine J_icmp_ge (tgt := 112) hC dX2_init_90 (by decide) (fun c => absurd c (by decide)) (fun _ => ?_)
  refine J_aload_n (j := 1) hC dX2_init_93 rfl ?_
  refine J_g2_1 hC k_X2_16 dX2_init_94 h (fun v25 _ h => ?_)
  refine J_iload_n (j := 0) hC dX2_init_97 rfl ?_
  refine J_new1 hC k_X2_9 (Nat.le_of_ble_eq_true rfl) (Nat.le_of_ble_eq_true rfl) dX2_init_98 h (fun M26 _ h => ?_)
  refine J_dup hC dX2_init_101 rfl ?_
  refine bnd_c h (fun w27 hw h => ?_)
  refine J_callI (As := []) (M' := w27) (rv := none) (st := [rf (some M24.1), .int 1, rf v25]) hC (fun l hl => cX1_init_ok M26 (some M24.1) _ hw l hl) im_X1_init k_X2_11 ⟨_, rfl⟩ rfl ⟨Nat.le_of_ble_eq_true rfl, Nat.le_of_ble_eq_true rfl⟩ (Nat.le_of_ble_eq_true rfl) ⟨Nat.le_of_ble_eq_true rfl, Nat.le_of_ble_eq_true rfl⟩ dX2_init_102 rfl ?_
  refine J_aast8 hC dX2_init_105 h (fun M28 _ h => ?_)
  refine J_iinc (j := 0) (w := 2) (lv' := [(1, .int 2), (0, rf a0)]) hC dX2_init_106 (by decide) rfl (by decide) rfl ?_
  refine J_goto (tgt := 87) hC dX2_init_109 (by decide) ?_
  refine J_iload_n (j := 0) hC dX2_init_87 rfl ?_
  refine J_bipush (v := 6) hC dX2_init_88 (by decide) ?_
  refine J_icmp_ge (tgt := 112) hC dX2_init_90 (by decide) (fun c => absurd c (by decide)) (fun _ => ?_)
  refine J_aload_n (j := 1) hC dX2_init_93 rfl ?_
  refine J_g2_1 hC k_X2_16 dX2_init_94 h (fun v29 _ h => ?_)
  refine J_iload_n (j := 0) hC dX2_init_97 rfl ?_
  refine J_new1 hC k_X2_9 (Nat.le_of_ble_eq_true rfl) (Nat.le_of_ble_eq_true rfl) dX2_init_98 h (fun M30 _ h => ?_)
  refine J_dup hC dX2_init_101 rfl ?_
  refine bnd_c h (fun w31 hw h => ?_)
  refine J_callI (As := []) (M' := w31) (rv := none) (st := [rf (some M28.1), .int 2, rf v29]) hC (fun l hl => cX1_init_ok M30 (some M28.1) _ hw l hl) im_X1_init k_X2_11 ⟨_, rfl⟩ rfl ⟨Nat.le_of_ble_eq_true rfl, Nat.le_of_ble_eq_true rfl⟩ (Nat.le_of_ble_eq_true rfl) ⟨Nat.le_of_ble_eq_true rfl, Nat.le_of_ble_eq_true rfl⟩ dX2_init_102 rfl ?_
  refine J_aast8 hC dX2_init_105 h (fun M32 _ h => ?_)
  refine J_iinc (j := 0) (w := 3) (lv' := [(1, .int 3), (0, rf a0)]) hC dX2_init_106 (by decide) rfl (by decide) rfl ?_
  refine J_goto (tgt := 87) hC dX2_init_109 (by decide) ?_
  refine J_iload_n (j := 0) hC dX2_init_87 rfl ?_
  refine J_bipush (v := 6) hC dX2_init_88 (by decide) ?_
  refine J_icmp_ge (tgt := 112) hC dX2_init_90 (by decide) (fun c => absurd c (by decide)) (fun _ => ?_)
  refine J_aload_n (j := 1) hC dX2_init_93 rfl ?_
  refine J_g2_1 hC k_X2_16 dX2_init_94 h (fun v33 _ h => ?_)
  refine J_iload_n (j := 0) hC dX2_init_97 rfl ?_
  refine J_new1 hC k_X2_9 (Nat.le_of_ble_eq_true rfl) (Nat.le_of_ble_eq_true rfl) dX2_init_98 h (fun M34 _ h => ?_)
  refine J_dup hC dX2_init_101 rfl ?_
  refine bnd_c h (fun w35 hw h => ?_)
  refine J_callI (As := []) (M' := w35) (rv := none) (st := [rf (some M32.1), .int 3, rf v33]) hC (fun l hl => cX1_init_ok M34 (some M32.1) _ hw l hl) im_X1_init k_X2_11 ⟨_, rfl⟩ rfl ⟨Nat.le_of_ble_eq_true rfl, Nat.le_of_ble_eq_true rfl⟩ (Nat.le_of_ble_eq_true rfl) ⟨Nat.le_of_ble_eq_true rfl, Nat.le_of_ble_eq_true rfl⟩ dX2_init_102 rfl ?_
  refine J_aast8 hC dX2_init_105 h (fun M36 _ h => ?_)
  refine J_iinc (j := 0) (w := 4) (lv' := [(1, .int 4), (0, rf a0)]) hC dX2_init_106 (by decide) rfl (by decide) rfl ?_
  refine J_goto (tgt := 87) hC dX2_init_109 (by decide) ?_
  refine J_iload_n (j := 0) hC dX2_init_87 rfl ?_
  refine J_bipush (v := 6) hC dX2_init_88 (by decide) ?_
  refine J_icmp_ge (tgt := 112) hC dX2_init_90 (by decide) (fun c => absurd c (by decide)) (fun _ => ?_)
  refine J_aload_n (j := 1) hC dX2_init_93 rfl ?_
  refine J_g2_1 hC k_X2_16 dX2_init_94 h (fun v37 _ h => ?_)
  refine J_iload_n (j := 0) hC dX2_init_97 rfl ?_
  refine J_new1 hC k_X2_9 (Nat.le_of_ble_eq_true rfl) (Nat.le_of_ble_eq_true rfl) dX2_init_98 h (fun M38 _ h => ?_)
  refine J_dup hC dX2_init_101 rfl ?_
  refine bnd_c h (fun w39 hw h => ?_)
  refine J_callI (As := []) (M' := w39) (rv := none) (st := [rf (some M36.1), .int 4, rf v37]) hC (fun l hl => cX1_init_ok M38 (some M36.1) _ hw l hl) im_X1_init k_X2_11 ⟨_, rfl⟩ rfl ⟨Nat.le_of_ble_eq_true rfl, Nat.le_of_ble_eq_true rfl⟩ (Nat.le_of_ble_eq_true rfl) ⟨Nat.le_of_ble_eq_true rfl, Nat.le_of_ble_eq_true rfl⟩ dX2_init_102 rfl ?_
  refine J_aast8 hC dX2_init_105 h (fun M40 _ h => ?_)
  refine J_iinc (j := 0) (w := 5) (lv' := [(1, .int 5), (0, rf a0)]) hC dX2_init_106 (by decide) rfl (by decide) rfl ?_
  refine J_goto (tgt := 87) hC dX2_init_109 (by decide) ?_
  refine J_iload_n (j := 0) hC dX2_init_87 rfl ?_
  refine J_bipush (v := 6) hC dX2_init_88 (by decide) ?_
  refine J_icmp_ge (tgt := 112) hC dX2_init_90 (by decide) (fun c => absurd c (by decide)) (fun _ => ?_)
  refine J_aload_n (j := 1) hC dX2_init_93 rfl ?_
  refine J_g2_1 hC k_X2_16 dX2_init_94 h (fun v41 _ h => ?_)
  refine J_iload_n (j := 0) hC dX2_init_97 rfl ?_
  refine J_new1 hC k_X2_9 (Nat.le_of_ble_eq_true rfl) (Nat.le_of_ble_eq_true rfl) dX2_init_98 h (fun M42 _ h => ?_)
  refine J_dup hC dX2_init_101 rfl ?_
  refine bnd_c h (fun w43 hw h => ?_)
  refine J_callI (As := []) (M' := w43) (rv := none) (st := [rf (some M40.1), .int 5, rf v41]) hC (fun l hl => cX1_init_ok M42 (some M40.1) _ hw l hl) im_X1_init k_X2_11 ⟨_, rfl⟩ rfl ⟨Nat.le_of_ble_eq_true rfl, Nat.le_of_ble_eq_true rfl⟩ (Nat.le_of_ble_eq_true rfl) ⟨Nat.le_of_ble_eq_true rfl, Nat.le_of_ble_eq_true rfl⟩ dX2_init_102 rfl ?_
  refine J_aast8 hC dX2_init_105 h (fun M44 _ h => ?_)
  refine J_iinc (j := 0) (w := 6) (lv' := [(1, .int 6), (0, rf a0)]) hC dX2_init_106 (by decide) rfl (by decide) rfl ?_
  refine J_goto (tgt := 87) hC dX2_init_109 (by decide) ?_
  refine J_iload_n (j := 0) hC dX2_init_87 rfl ?_
  refine J_bipush (v := 6) hC dX2_init_88 (by decide) ?_
  refine J_icmp_ge (tgt := 112) hC dX2_init_90 (by decide) (fun _ => ?_) (fun c => absurd (by decide) c)
  refine J_iconst (v := 0) hC dX2_init_112 (by decide) ?_
  refine J_istore_n (i := 1) (lv' := [(1, .int 0), (0, rf a0)]) rfl hC dX2_init_113 (by decide) rfl ?_
  refine J_iload_n (j := 0) hC dX2_init_114 rfl ?_
  refine J_iconst (v := 2) hC dX2_init_115 (by decide) ?_
  refine J_icmp_ge (tgt := 138) hC dX2_init_116 (by decide) (fun c => absurd c (by decide)) (fun _ => ?_)
  refine J_aload_n (j := 1) hC dX2_init_119 rfl ?_
  refine J_g2_3 hC k_X2_24 dX2_init_120 h (fun v45 _ h => ?_)
  refine J_iload_n (j := 0) hC dX2_init_123 rfl ?_
  refine J_new1 hC k_X2_9 (Nat.le_of_ble_eq_true rfl) (Nat.le_of_ble_eq_true rfl) dX2_init_124 h (fun M46 _ h => ?_)
  refine J_dup hC dX2_init_127 rfl ?_
  refine bnd_c h (fun w47 hw h => ?_)
  refine J_callI (As := []) (M' := w47) (rv := none) (st := [rf (some M44.1), .int 0, rf v45]) hC (fun l hl => cX1_init_ok M46 (some M44.1) _ hw l hl) im_X1_init k_X2_11 ⟨_, rfl⟩ rfl ⟨Nat.le_of_ble_eq_true rfl, Nat.le_of_ble_eq_true rfl⟩ (Nat.le_of_ble_eq_true rfl) ⟨Nat.le_of_ble_eq_true rfl, Nat.le_of_ble_eq_true rfl⟩ dX2_init_128 rfl ?_
  refine J_aast8 hC dX2_init_131 h (fun M48 _ h => ?_)
  refine J_iinc (j := 0) (w := 1) (lv' := [(1, .int 1), (0, rf a0)]) hC dX2_init_132 (by decide) rfl (by decide) rfl ?_
  refine J_goto (tgt := 114) hC dX2_init_135 (by decide) ?_
  refine J_iload_n (j := 0) hC dX2_init_114 rfl ?_
  refine J_iconst (v := 2) hC dX2_init_115 (by decide) ?_
  refine J_icmp_ge (tgt := 138) hC dX2_init_116 (by decide) (fun c => absurd c (by decide)) (fun _ => ?_)
  refine J_aload_n (j := 1) hC dX2_init_119 rfl ?_
  refine J_g2_3 hC k_X2_24 dX2_init_120 h (fun v49 _ h => ?_)
  refine J_iload_n (j := 0) hC dX2_init_123 rfl ?_
  refine J_new1 hC k_X2_9 (Nat.le_of_ble_eq_true rfl) (Nat.le_of_ble_eq_true rfl) dX2_init_124 h (fun M50 _ h => ?_)
  refine J_dup hC dX2_init_127 rfl ?_
  refine bnd_c h (fun w51 hw h => ?_)
  refine J_callI (As := []) (M' := w51) (rv := none) (st := [rf (some M48.1), .int 1, rf v49]) hC (fun l hl => cX1_init_ok M50 (some M48.1) _ hw l hl) im_X1_init k_X2_11 ⟨_, rfl⟩ rfl ⟨Nat.le_of_ble_eq_true rfl, Nat.le_of_ble_eq_true rfl⟩ (Nat.le_of_ble_eq_true rfl) ⟨Nat.le_of_ble_eq_true rfl, Nat.le_of_ble_eq_true rfl⟩ dX2_init_128 rfl ?_
  refine J_aast8 hC dX2_init_131 h (fun M52 _ h => ?_)
  refine J_iinc (j := 0) (w := 2) (lv' := [(1, .int 2), (0, rf a0)]) hC dX2_init_132 (by decide) rfl (by decide) rfl ?_
  refine J_goto (tgt := 114) hC dX2_init_135 (by decide) ?_
  refine J_iload_n (j := 0) hC dX2_init_114 rfl ?_
  refine J_iconst (v := 2) hC dX2_init_115 (by decide) ?_
  refine J_icmp_ge (tgt := 138) hC dX2_init_116 (by decide) (fun _ => ?_) (fun c => absurd (by decide) c)
  refine J_iconst (v := 0) hC dX2_init_138 (by decide) ?_
  refine J_istore_n (i := 1) (lv' := [(1, .int 0), (0, rf a0)]) rfl hC dX2_init_139 (by decide) rfl ?_
  refine J_iload_n (j := 0) hC dX2_init_140 rfl ?_
  refine J_bipush (v := 9) hC dX2_init_141 (by decide) ?_
  refine J_icmp_ge (tgt := 165) hC dX2_init_143 (by decide) (fun c => absurd c (by decide)) (fun _ => ?_)
  refine J_aload_n (j := 1) hC dX2_init_146 rfl ?_
  refine J_g2_8 hC k_X2_44 dX2_init_147 h (fun v53 _ h => ?_)
  refine J_iload_n (j := 0) hC dX2_init_150 rfl ?_
  refine J_new0 hC k_X2_42 (Nat.le_of_ble_eq_true rfl) (Nat.le_of_ble_eq_true rfl) dX2_init_151 h (fun M54 _ h => ?_)
  refine J_dup hC dX2_init_154 rfl ?_
  refine bnd_c h (fun w55 hw h => ?_)
  refine J_callIN (As := []) (M' := w55) (rv := none) (st := [rf (some M52.1), .int 0, rf v53]) hC (fun l hl => cX0_init_ok M54 (some M52.1) _ hw l hl) im_X0_init (fun U h => h.1.1) ⟨_, rfl⟩ rfl ⟨Nat.le_of_ble_eq_true rfl, Nat.le_of_ble_eq_true rfl⟩ (Nat.le_of_ble_eq_true rfl) ⟨Nat.le_of_ble_eq_true rfl, Nat.le_of_ble_eq_true rfl⟩ dX2_init_155 rfl ?_
  refine J_aast7 hC dX2_init_158 h (fun M56 _ h => ?_)
  refine J_iinc (j := 0) (w := 1) (lv' := [(1, .int 1), (0, rf a0)]) hC dX2_init_159 (by decide) rfl (by decide) rfl ?_
  refine J_goto (tgt := 140) hC dX2_init_162 (by decide) ?_
  refine J_iload_n (j := 0) hC dX2_init_140 rfl ?_
  refine J_bipush (v := 9) hC dX2_init_141 (by decide) ?_
  refine J_icmp_ge (tgt := 165) hC dX2_init_143 (by decide) (fun c => absurd c (by decide)) (fun _ => ?_)
  refine J_aload_n (j := 1) hC dX2_init_146 rfl ?_
  refine J_g2_8 hC k_X2_44 dX2_init_147 h (fun v57 _ h => ?_)
  refine J_iload_n (j := 0) hC dX2_init_150 rfl ?_
  refine J_new0 hC k_X2_42 (Nat.le_of_ble_eq_true rfl) (Nat.le_of_ble_eq_true rfl) dX2_init_151 h (fun M58 _ h => ?_)
  refine J_dup hC dX2_init_154 rfl ?_
  refine bnd_c h (fun w59 hw h => ?_)
  refine J_callIN (As := []) (M' := w59) (rv := none) (st := [rf (some M56.1), .int 1, rf v57]) hC (fun l hl => cX0_init_ok M58 (some M56.1) _ hw l hl) im_X0_init (fun U h => h.1.1) ⟨_, rfl⟩ rfl ⟨Nat.le_of_ble_eq_true rfl, Nat.le_of_ble_eq_true rfl⟩ (Nat.le_of_ble_eq_true rfl) ⟨Nat.le_of_ble_eq_true rfl, Nat.le_of_ble_eq_true rfl⟩ dX2_init_155 rfl ?_
  refine J_aast7 hC dX2_init_158 h (fun M60 _ h => ?_)
  refine J_iinc (j := 0) (w := 2) (lv' := [(1, .int 2), (0, rf a0)]) hC dX2_init_159 (by decide) rfl (by decide) rfl ?_
  refine J_goto (tgt := 140) hC dX2_init_162 (by decide) ?_
  refine J_iload_n (j := 0) hC dX2_init_140 rfl ?_
  refine J_bipush (v := 9) hC dX2_init_141 (by decide) ?_
  refine J_icmp_ge (tgt := 165) hC dX2_init_143 (by decide) (fun c => absurd c (by decide)) (fun _ => ?_)
  refine J_aload_n (j := 1) hC dX2_init_146 rfl ?_
  refine J_g2_8 hC k_X2_44 dX2_init_147 h (fun v61 _ h => ?_)
  refine J_iload_n (j := 0) hC dX2_init_150 rfl ?_
  refine J_new0 hC k_X2_42 (Nat.le_of_ble_eq_true rfl) (Nat.le_of_ble_eq_true rfl) dX2_init_151 h (fun M62 _ h => ?_)
  refine J_dup hC dX2_init_154 rfl ?_
  refine bnd_c h (fun w63 hw h => ?_)
  refine J_callIN (As := []) (M' := w63) (rv := none) (st := [rf (some M60.1), .int 2, rf v61]) hC (fun l hl => cX0_init_ok M62 (some M60.1) _ hw l hl) im_X0_init (fun U h => h.1.1) ⟨_, rfl⟩ rfl ⟨Nat.le_of_ble_eq_true rfl, Nat.le_of_ble_eq_true rfl⟩ (Nat.le_of_ble_eq_true rfl) ⟨Nat.le_of_ble_eq_true rfl, Nat.le_of_ble_eq_true rfl⟩ dX2_init_155 rfl ?_
  refine J_aast7 hC dX2_init_158 h (fun M64 _ h => ?_)
  refine J_iinc (j := 0) (w := 3) (lv' := [(1, .int 3), (0, rf a0)]) hC dX2_init_159 (by decide) rfl (by decide) rfl ?_
  refine J_goto (tgt := 140) hC dX2_init_162 (by decide) ?_
  refine J_iload_n (j := 0) hC dX2_init_140 rfl ?_
  refine J_bipush (v := 9) hC dX2_init_141 (by decide) ?_
  refine J_icmp_ge (tgt := 165) hC dX2_init_143 (by decide) (fun c => absurd c (by decide)) (fun _ => ?_)
  refine J_aload_n (j := 1) hC dX2_init_146 rfl ?_
  refine J_g2_8 hC k_X2_44 dX2_init_147 h (fun v65 _ h => ?_)
  refine J_iload_n (j := 0) hC dX2_init_150 rfl ?_
  refine J_new0 hC k_X2_42 (Nat.le_of_ble_eq_true rfl) (Nat.le_of_ble_eq_true rfl) dX2_init_151 h (fun M66 _ h => ?_)
  refine J_dup hC dX2_init_154 rfl ?_
  refine bnd_c h (fun w67 hw h => ?_)
  refine J_callIN (As := []) (M' := w67) (rv := none) (st := [rf (some M64.1), .int 3, rf v65]) hC (fun l hl => cX0_init_ok M66 (some M64.1) _ hw l hl) im_X0_init (fun U h => h.1.1) ⟨_, rfl⟩ rfl ⟨Nat.le_of_ble_eq_true rfl, Nat.le_of_ble_eq_true rfl⟩ (Nat.le_of_ble_eq_true rfl) ⟨Nat.le_of_ble_eq_true rfl, Nat.le_of_ble_eq_true rfl⟩ dX2_init_155 rfl ?_
  refine J_aast7 hC dX2_init_158 h (fun M68 _ h => ?_)
  refine J_iinc (j := 0) (w := 4) (lv' := [(1, .int 4), (0, rf a0)]) hC dX2_init_159 (by decide) rfl (by decide) rfl ?_
  refine J_goto (tgt := 140) hC dX2_init_162 (by decide) ?_
  refine J_iload_n (j := 0) hC dX2_init_140 rfl ?_
  refine J_bipush (v := 9) hC dX2_init_141 (by decide) ?_
  refine J_icmp_ge (tgt := 165) hC dX2_init_143 (by decide) (fun c => absurd c (by decide)) (fun _ => ?_)
  refine J_aload_n (j := 1) hC dX2_init_146 rfl ?_
  refine J_g2_8 hC k_X2_44 dX2_init_147 h (fun v69 _ h => ?_)
  refine J_iload_n (j := 0) hC dX2_init_150 rfl ?_
  refine J_new0 hC k_X2_42 (Nat.le_of_ble_eq_true rfl) (Nat.le_of_ble_eq_true rfl) dX2_init_151 h (fun M70 _ h => ?_)
  refine J_dup hC dX2_init_154 rfl ?_
  refine bnd_c h (fun w71 hw h => ?_)
  refine J_callIN (As := []) (M' := w71) (rv := none) (st := [rf (some M68.1), .int 4, rf v69]) hC (fun l hl => cX0_init_ok M70 (some M68.1) _ hw l hl) im_X0_init (fun U h => h.1.1) ⟨_, rfl⟩ rfl ⟨Nat.le_of_ble_eq_true rfl, Nat.le_of_ble_eq_true rfl⟩ (Nat.le_of_ble_eq_true rfl) ⟨Nat.le_of_ble_eq_true rfl, Nat.le_of_ble_eq_true rfl⟩ dX2_init_155 rfl ?_
  refine J_aast7 hC dX2_init_158 h (fun M72 _ h => ?_)
  refine J_iinc (j := 0) (w := 5) (lv' := [(1, .int 5), (0, rf a0)]) hC dX2_init_159 (by decide) rfl (by decide) rfl ?_
  refine J_goto (tgt := 140) hC dX2_init_162 (by decide) ?_
  refine J_iload_n (j := 0) hC dX2_init_140 rfl ?_
  refine J_bipush (v := 9) hC dX2_init_141 (by decide) ?_
  refine J_icmp_ge (tgt := 165) hC dX2_init_143 (by decide) (fun c => absurd c (by decide)) (fun _ => ?_)
  refine J_aload_n (j := 1) hC dX2_init_146 rfl ?_
  refine J_g2_8 hC k_X2_44 dX2_init_147 h (fun v73 _ h => ?_)
  refine J_iload_n (j := 0) hC dX2_init_150 rfl ?_
  refine J_new0 hC k_X2_42 (Nat.le_of_ble_eq_true rfl) (Nat.le_of_ble_eq_true rfl) dX2_init_151 h (fun M74 _ h => ?_)
  refine J_dup hC dX2_init_154 rfl ?_
  refine bnd_c h (fun w75 hw h => ?_)
  refine J_callIN (As := []) (M' := w75) (rv := none) (st := [rf (some M72.1), .int 5, rf v73]) hC (fun l hl => cX0_init_ok M74 (some M72.1) _ hw l hl) im_X0_init (fun U h => h.1.1) ⟨_, rfl⟩ rfl ⟨Nat.le_of_ble_eq_true rfl, Nat.le_of_ble_eq_true rfl⟩ (Nat.le_of_ble_eq_true rfl) ⟨Nat.le_of_ble_eq_true rfl, Nat.le_of_ble_eq_true rfl⟩ dX2_init_155 rfl ?_
  refine J_aast7 hC dX2_init_158 h (fun M76 _ h => ?_)
  refine J_iinc (j := 0) (w := 6) (lv' := [(1, .int 6), (0, rf a0)]) hC dX2_init_159 (by decide) rfl (by decide) rfl ?_
  refine J_goto (tgt := 140) hC dX2_init_162 (by decide) ?_
  refine J_iload_n (j := 0) hC dX2_init_140 rfl ?_
  refine J_bipush (v := 9) hC dX2_init_141 (by decide) ?_
  refine J_icmp_ge (tgt := 165) hC dX2_init_143 (by decide) (fun c => absurd c (by decide)) (fun _ => ?_)
  refine J_aload_n (j := 1) hC dX2_init_146 rfl ?_
  refine J_g2_8 hC k_X2_44 dX2_init_147 h (fun v77 _ h => ?_)
  refine J_iload_n (j := 0) hC dX2_init_150 rfl ?_
  refine J_new0 hC k_X2_42 (Nat.le_of_ble_eq_true rfl) (Nat.le_of_ble_eq_true rfl) dX2_init_151 h (fun M78 _ h => ?_)
  refine J_dup hC dX2_init_154 rfl ?_
  refine bnd_c h (fun w79 hw h => ?_)
  refine J_callIN (As := []) (M' := w79) (rv := none) (st := [rf (some M76.1), .int 6, rf v77]) hC (fun l hl => cX0_init_ok M78 (some M76.1) _ hw l hl) im_X0_init (fun U h => h.1.1) ⟨_, rfl⟩ rfl ⟨Nat.le_of_ble_eq_true rfl, Nat.le_of_ble_eq_true rfl⟩ (Nat.le_of_ble_eq_true rfl) ⟨Nat.le_of_ble_eq_true rfl, Nat.le_of_ble_eq_true rfl⟩ dX2_init_155 rfl ?_
  refine J_aast7 hC dX2_init_158 h (fun M80 _ h => ?_)
  refine J_iinc (j := 0) (w := 7) (lv' := [(1, .int 7), (0, rf a0)]) hC dX2_init_159 (by decide) rfl (by decide) rfl ?_
  refine J_goto (tgt := 140) hC dX2_init_162 (by decide) ?_
  refine J_iload_n (j := 0) hC dX2_init_140 rfl ?_
  refine J_bipush (v := 9) hC dX2_init_141 (by decide) ?_
  refine J_icmp_ge (tgt := 165) hC dX2_init_143 (by decide) (fun c => absurd c (by decide)) (fun _ => ?_)
  refine J_aload_n (j := 1) hC dX2_init_146 rfl ?_
  refine J_g2_8 hC k_X2_44 dX2_init_147 h (fun v81 _ h => ?_)
  refine J_iload_n (j := 0) hC dX2_init_150 rfl ?_
  refine J_new0 hC k_X2_42 (Nat.le_of_ble_eq_true rfl) (Nat.le_of_ble_eq_true rfl) dX2_init_151 h (fun M82 _ h => ?_)
  refine J_dup hC dX2_init_154 rfl ?_
  refine bnd_c h (fun w83 hw h => ?_)
  refine J_callIN (As := []) (M' := w83) (rv := none) (st := [rf (some M80.1), .int 7, rf v81]) hC (fun l hl => cX0_init_ok M82 (some M80.1) _ hw l hl) im_X0_init (fun U h => h.1.1) ⟨_, rfl⟩ rfl ⟨Nat.le_of_ble_eq_true rfl, Nat.le_of_ble_eq_true rfl⟩ (Nat.le_of_ble_eq_true rfl) ⟨Nat.le_of_ble_eq_true rfl, Nat.le_of_ble_eq_true rfl⟩ dX2_init_155 rfl ?_
  refine J_aast7 hC dX2_init_158 h (fun M84 _ h => ?_)
  refine J_iinc (j := 0) (w := 8) (lv' := [(1, .int 8), (0, rf a0)]) hC dX2_init_159 (by decide) rfl (by decide) rfl ?_
  refine J_goto (tgt := 140) hC dX2_init_162 (by decide) ?_
  refine J_iload_n (j := 0) hC dX2_init_140 rfl ?_
  refine J_bipush (v := 9) hC dX2_init_141 (by decide) ?_
  refine J_icmp_ge (tgt := 165) hC dX2_init_143 (by decide) (fun c => absurd c (by decide)) (fun _ => ?_)
  refine J_aload_n (j := 1) hC dX2_init_146 rfl ?_
  refine J_g2_8 hC k_X2_44 dX2_init_147 h (fun v85 _ h => ?_)
  refine J_iload_n (j := 0) hC dX2_init_150 rfl ?_
  refine J_new0 hC k_X2_42 (Nat.le_of_ble_eq_true rfl) (Nat.le_of_ble_eq_true rfl) dX2_init_151 h (fun M86 _ h => ?_)
  refine J_dup hC dX2_init_154 rfl ?_
  refine bnd_c h (fun w87 hw h => ?_)
  refine J_callIN (As := []) (M' := w87) (rv := none) (st := [rf (some M84.1), .int 8, rf v85]) hC (fun l hl => cX0_init_ok M86 (some M84.1) _ hw l hl) im_X0_init (fun U h => h.1.1) ⟨_, rfl⟩ rfl ⟨Nat.le_of_ble_eq_true rfl, Nat.le_of_ble_eq_true rfl⟩ (Nat.le_of_ble_eq_true rfl) ⟨Nat.le_of_ble_eq_true rfl, Nat.le_of_ble_eq_true rfl⟩ dX2_init_155 rfl ?_
  refine J_aast7 hC dX2_init_158 h (fun M88 _ h => ?_)
  refine J_iinc (j := 0) (w := 9) (lv' := [(1, .int 9), (0, rf a0)]) hC dX2_init_159 (by decide) rfl (by decide) rfl ?_
  refine J_goto (tgt := 140) hC dX2_init_162 (by decide) ?_
  refine J_iload_n (j := 0) hC dX2_init_140 rfl ?_
  refine J_bipush (v := 9) hC dX2_init_141 (by decide) ?_
  refine J_icmp_ge (tgt := 165) hC dX2_init_143 (by decide) (fun _ => ?_) (fun c => absurd (by decide) c)
  exact J_vret hC dX2_init_165 (by have h9 := Option.some.inj h; subst h9; rfl) (Nat.le_of_ble_eq_true rfl) (Nat.le_of_ble_eq_true rfl)
abbrev rm_X2_checkNumber : Room := { frames := 0, cells := 0, slots := 0, locals := 0 }

set_option maxHeartbeats 4000000 in
set_option maxRecDepth 100000 in
theorem cX2_checkNumber_ok (M : Mem) (a0 : Int32) (r0 : Unit) (h : fX2_checkNumber M a0 = some r0) : ∀ l : Launch, l.stackTraces = false → Con false l yX2_checkNumber cX2_checkNumber 1 none rm_X2_checkNumber [.int a0] M (M, Sum.inr none) := by
  intro l hst
  refine Con.enter hst (own := RX2) (by decide +kernel) rfl (by exact Nat.le_of_ble_eq_true rfl) (lv0 := [(0, .int a0)]) (rfl) (fun C hC hin => ?_)
  unfold fX2_checkNumber at h
  refine J_iload_n (j := 0) hC dX2_checkNumber_0 rfl ?_
  refine J_if_lt (tgt := 9) hC dX2_checkNumber_1 (by decide) (fun c1 => ?_) (fun c1 => ?_)
  · have h := ite_t c1 h
    cases h
  · have h := ite_f c1 h
    refine J_iload_n (j := 0) hC dX2_checkNumber_4 rfl ?_
    refine J_iconst (v := 5) hC dX2_checkNumber_5 (by decide) ?_
    refine J_icmp_lt (tgt := 19) hC dX2_checkNumber_6 (by decide) (fun c2 => ?_) (fun c2 => ?_)
    · have h := ite_t c2 h
      exact J_vret hC dX2_checkNumber_19 (by have h9 := Option.some.inj h; subst h9; rfl) (Nat.le_of_ble_eq_true rfl) (Nat.le_of_ble_eq_true rfl)
    · have h := ite_f c2 h
      cases h
abbrev rm_X2_checkPower : Room := { frames := 0, cells := 0, slots := 0, locals := 0 }

set_option maxHeartbeats 4000000 in
set_option maxRecDepth 100000 in
theorem cX2_checkPower_ok (M : Mem) (a0 : Int32) (r0 : Unit) (h : fX2_checkPower M a0 = some r0) : ∀ l : Launch, l.stackTraces = false → Con false l yX2_checkPower cX2_checkPower 1 none rm_X2_checkPower [.int a0] M (M, Sum.inr none) := by
  intro l hst
  refine Con.enter hst (own := RX2) (by decide +kernel) rfl (by exact Nat.le_of_ble_eq_true rfl) (lv0 := [(0, .int a0)]) (rfl) (fun C hC hin => ?_)
  unfold fX2_checkPower at h
  refine J_iload_n (j := 0) hC dX2_checkPower_0 rfl ?_
  refine J_if_lt (tgt := 10) hC dX2_checkPower_1 (by decide) (fun c1 => ?_) (fun c1 => ?_)
  · have h := ite_t c1 h
    cases h
  · have h := ite_f c1 h
    refine J_iload_n (j := 0) hC dX2_checkPower_4 rfl ?_
    refine J_bipush (v := 8) hC dX2_checkPower_5 (by decide) ?_
    refine J_icmp_le (tgt := 20) hC dX2_checkPower_7 (by decide) (fun c2 => ?_) (fun c2 => ?_)
    · have h := ite_t c2 h
      exact J_vret hC dX2_checkPower_20 (by have h9 := Option.some.inj h; subst h9; rfl) (Nat.le_of_ble_eq_true rfl) (Nat.le_of_ble_eq_true rfl)
    · have h := ite_f c2 h
      cases h
abbrev rm_X2_checkSign : Room := { frames := 0, cells := 0, slots := 0, locals := 0 }

set_option maxHeartbeats 4000000 in
set_option maxRecDepth 100000 in
theorem cX2_checkSign_ok (M : Mem) (a0 : Int32) (r0 : Unit) (h : fX2_checkSign M a0 = some r0) : ∀ l : Launch, l.stackTraces = false → Con false l yX2_checkSign cX2_checkSign 1 none rm_X2_checkSign [.int a0] M (M, Sum.inr none) := by
  intro l hst
  refine Con.enter hst (own := RX2) (by decide +kernel) rfl (by exact Nat.le_of_ble_eq_true rfl) (lv0 := [(0, .int a0)]) (rfl) (fun C hC hin => ?_)
  unfold fX2_checkSign at h
  refine J_iload_n (j := 0) hC dX2_checkSign_0 rfl ?_
  refine J_iconst (v := (-1)) hC dX2_checkSign_1 (by decide) ?_
  refine J_icmp_lt (tgt := 10) hC dX2_checkSign_2 (by decide) (fun c1 => ?_) (fun c1 => ?_)
  · have h := ite_t c1 h
    cases h
  · have h := ite_f c1 h
    refine J_iload_n (j := 0) hC dX2_checkSign_5 rfl ?_
    refine J_iconst (v := 1) hC dX2_checkSign_6 (by decide) ?_
    refine J_icmp_le (tgt := 20) hC dX2_checkSign_7 (by decide) (fun c2 => ?_) (fun c2 => ?_)
    · have h := ite_t c2 h
      exact J_vret hC dX2_checkSign_20 (by have h9 := Option.some.inj h; subst h9; rfl) (Nat.le_of_ble_eq_true rfl) (Nat.le_of_ble_eq_true rfl)
    · have h := ite_f c2 h
      cases h
abbrev rm_X2_dropOldest : Room := { frames := 0, cells := 0, slots := 0, locals := 0 }

set_option maxHeartbeats 4000000 in
set_option maxRecDepth 100000 in
theorem tX2_dropOldest_9 {C : JC} {r0 : Mem} (x0 : Option Nat) (x1 : Option Nat) (hC : Ok C false cX2_dropOldest 3 rm_X2_dropOldest none RX2 (r0, Sum.inr none))  (k35 : Mem → Int32 → Option (Mem)) (hk35 : ∀ (M : Mem) (x2 : Int32), k35 M x2 = some r0 → J C 0 0 M 35 [(0, rf x0), (1, rf x1), (2, .int x2)] []) : ∀ (n : Nat) (M : Mem) (x2 : Int32), fX2_dropOldest_9 x0 x1 k35 n M x2 = some r0 → J C 0 0 M 9 [(0, rf x0), (1, rf x1), (2, .int x2)] [] := by
  intro n
  induction n with
  | zero => intro M x2 h; have h : none = some r0 := h; cases h
  | succ n ih =>
    intro M x2 h
    rw [fX2_dropOldest_9] at h
    refine J_iload_n (j := 2) hC dX2_dropOldest_9 rfl ?_
    refine J_bipush (v := 6) hC dX2_dropOldest_10 (by decide) ?_
    refine J_icmp_ge (tgt := 35) hC dX2_dropOldest_12 (by decide) (fun c3 => ?_) (fun c3 => ?_)
    · have h := ite_t c3 h
      refine J_sub [0, 1, 2] rfl ?_
      exact hk35 M x2 h
    · have h := ite_f c3 h
      refine J_aload_n (j := 0) hC dX2_dropOldest_15 rfl ?_
      refine J_g2_1 hC k_X2_16 dX2_dropOldest_16 h (fun v4 _ h => ?_)
      refine J_iload_n (j := 2) hC dX2_dropOldest_19 rfl ?_
      refine J_iconst (v := 1) hC dX2_dropOldest_20 (by decide) ?_
      refine J_isub hC dX2_dropOldest_21 ?_
      refine J_aload_n (j := 0) hC dX2_dropOldest_22 rfl ?_
      refine J_g2_1 hC k_X2_16 dX2_dropOldest_23 h (fun v5 _ h => ?_)
      refine J_iload_n (j := 2) hC dX2_dropOldest_26 rfl ?_
      refine J_aald8 hC dX2_dropOldest_27 h (fun v6 _ h => ?_)
      refine J_aast8 hC dX2_dropOldest_28 h (fun M7 _ h => ?_)
      refine J_inc (j := 2) (k := 1) (lv' := [(2, .int (x2 + 1)), (0, rf x0), (1, rf x1)]) hC dX2_dropOldest_29 (by decide) rfl (by decide) rfl ?_
      refine J_goto (tgt := 9) hC dX2_dropOldest_32 (by decide) ?_
      refine J_sub [1, 2, 0] rfl ?_
      exact ih M7 (x2 + 1) h
set_option maxHeartbeats 4000000 in
set_option maxRecDepth 100000 in
theorem cX2_dropOldest_ok (M : Mem) (a0 : Option Nat) (r0 : Mem) (h : fX2_dropOldest M a0 = some r0) : ∀ l : Launch, l.stackTraces = false → Con false l yX2_dropOldest cX2_dropOldest 3 none rm_X2_dropOldest [rf a0] M (r0, Sum.inr none) := by
  intro l hst
  refine Con.enter hst (own := RX2) (by decide +kernel) rfl (by exact Nat.le_of_ble_eq_true rfl) (lv0 := [(0, rf a0)]) (rfl) (fun C hC hin => ?_)
  unfold fX2_dropOldest at h
  refine J_aload_n (j := 0) hC dX2_dropOldest_0 rfl ?_
  refine J_g2_1 hC k_X2_16 dX2_dropOldest_1 h (fun v1 _ h => ?_)
  refine J_iconst (v := 0) hC dX2_dropOldest_4 (by decide) ?_
  refine J_aald8 hC dX2_dropOldest_5 h (fun v2 _ h => ?_)
  refine J_astore_n (i := 1) (lv' := [(1, rf v2), (0, rf a0)]) rfl hC dX2_dropOldest_6 (by decide) rfl ?_
  refine J_iconst (v := 1) hC dX2_dropOldest_7 (by decide) ?_
  refine J_istore_n (i := 2) (lv' := [(2, .int 1), (1, rf v2), (0, rf a0)]) rfl hC dX2_dropOldest_8 (by decide) rfl ?_
  refine J_sub [2, 1, 0] rfl ?_
  refine tX2_dropOldest_9 a0 v2 hC _ (fun M8 x9 h => ?_) FU M 1 h
  · refine J_aload_n (j := 0) hC dX2_dropOldest_35 rfl ?_
    refine J_g2_1 hC k_X2_16 dX2_dropOldest_36 h (fun v10 _ h => ?_)
    refine J_iconst (v := 5) hC dX2_dropOldest_39 (by decide) ?_
    refine J_aload_n (j := 1) hC dX2_dropOldest_40 rfl ?_
    refine J_aast8 hC dX2_dropOldest_41 h (fun M11 _ h => ?_)
    refine J_aload_n (j := 0) hC dX2_dropOldest_42 rfl ?_
    refine J_dup hC dX2_dropOldest_43 rfl ?_
    refine J_g2_2 hC k_X2_20 dX2_dropOldest_44 h (fun v12 _ h => ?_)
    refine J_iconst (v := 1) hC dX2_dropOldest_47 (by decide) ?_
    refine J_isub hC dX2_dropOldest_48 ?_
    refine J_p2_2 hC k_X2_20 dX2_dropOldest_49 h (fun M13 _ h => ?_)
    exact J_vret hC dX2_dropOldest_52 (by have h9 := Option.some.inj h; subst h9; rfl) (Nat.le_of_ble_eq_true rfl) (Nat.le_of_ble_eq_true rfl)
abbrev rm_X1_takeOver : Room := { frames := 1, cells := 0, slots := 0, locals := 26 }

set_option maxHeartbeats 4000000 in
set_option maxRecDepth 100000 in
theorem tX1_takeOver_2 {C : JC} {r0 : Mem} (x0 : Option Nat) (x1 : Option Nat) (hC : Ok C false cX1_takeOver 3 rm_X1_takeOver none RX1 (r0, Sum.inr none))  (k32 : Mem → Int32 → Option (Mem)) (hk32 : ∀ (M : Mem) (x2 : Int32), k32 M x2 = some r0 → J C 0 0 M 32 [(0, rf x0), (1, rf x1), (2, .int x2)] []) : ∀ (n : Nat) (M : Mem) (x2 : Int32), fX1_takeOver_2 x0 x1 k32 n M x2 = some r0 → J C 0 0 M 2 [(0, rf x0), (1, rf x1), (2, .int x2)] [] := by
  intro n
  induction n with
  | zero => intro M x2 h; have h : none = some r0 := h; cases h
  | succ n ih =>
    intro M x2 h
    rw [fX1_takeOver_2] at h
    refine J_iload_n (j := 2) hC dX1_takeOver_2 rfl ?_
    refine J_iconst (v := 5) hC dX1_takeOver_3 (by decide) ?_
    refine J_icmp_ge (tgt := 32) hC dX1_takeOver_4 (by decide) (fun c1 => ?_) (fun c1 => ?_)
    · have h := ite_t c1 h
      refine J_sub [0, 1, 2] rfl ?_
      exact hk32 M x2 h
    · have h := ite_f c1 h
      refine J_aload_n (j := 1) hC dX1_takeOver_7 rfl ?_
      refine J_g1_0 hC k_X1_11 dX1_takeOver_8 h (fun v2 _ h => ?_)
      refine J_iload_n (j := 2) hC dX1_takeOver_11 rfl ?_
      refine J_aald9 hC dX1_takeOver_12 h (fun v3 _ h => ?_)
      refine J_iconst (v := 0) hC dX1_takeOver_13 (by decide) ?_
      refine J_aload_n (j := 0) hC dX1_takeOver_14 rfl ?_
      refine J_g1_0 hC k_X1_11 dX1_takeOver_15 h (fun v4 _ h => ?_)
      refine J_iload_n (j := 2) hC dX1_takeOver_18 rfl ?_
      refine J_aald9 hC dX1_takeOver_19 h (fun v5 _ h => ?_)
      refine J_iconst (v := 0) hC dX1_takeOver_20 (by decide) ?_
      refine J_bipush (v := 9) hC dX1_takeOver_21 (by decide) ?_
      refine J_copyi hC k_X1_30 (Nat.zero_le _) (Nat.le_of_ble_eq_true rfl) (Nat.le_of_ble_eq_true rfl) dX1_takeOver_23 h (fun M6 _ h => ?_)
      refine J_inc (j := 2) (k := 1) (lv' := [(2, .int (x2 + 1)), (0, rf x0), (1, rf x1)]) hC dX1_takeOver_26 (by decide) rfl (by decide) rfl ?_
      refine J_goto (tgt := 2) hC dX1_takeOver_29 (by decide) ?_
      refine J_sub [1, 2, 0] rfl ?_
      exact ih M6 (x2 + 1) h
set_option maxHeartbeats 4000000 in
set_option maxRecDepth 100000 in
theorem cX1_takeOver_ok (M : Mem) (a0 : Option Nat) (a1 : Option Nat) (r0 : Mem) (h : fX1_takeOver M a0 a1 = some r0) : ∀ l : Launch, l.stackTraces = false → Con false l yX1_takeOver cX1_takeOver 3 none rm_X1_takeOver [rf a0, rf a1] M (r0, Sum.inr none) := by
  intro l hst
  refine Con.enter hst (own := RX1) (by decide +kernel) rfl (by exact Nat.le_of_ble_eq_true rfl) (lv0 := [(0, rf a0), (1, rf a1)]) (rfl) (fun C hC hin => ?_)
  unfold fX1_takeOver at h
  refine J_iconst (v := 0) hC dX1_takeOver_0 (by decide) ?_
  refine J_istore_n (i := 2) (lv' := [(2, .int 0), (0, rf a0), (1, rf a1)]) rfl hC dX1_takeOver_1 (by decide) rfl ?_
  refine J_sub [1, 2, 0] rfl ?_
  refine tX1_takeOver_2 a0 a1 hC _ (fun M7 x8 h => ?_) FU M 0 h
  · refine J_aload_n (j := 1) hC dX1_takeOver_32 rfl ?_
    refine J_g1_1 hC k_X1_16 dX1_takeOver_33 h (fun v9 _ h => ?_)
    refine J_iconst (v := 0) hC dX1_takeOver_36 (by decide) ?_
    refine J_aload_n (j := 0) hC dX1_takeOver_37 rfl ?_
    refine J_g1_1 hC k_X1_16 dX1_takeOver_38 h (fun v10 _ h => ?_)
    refine J_iconst (v := 0) hC dX1_takeOver_41 (by decide) ?_
    refine J_bipush (v := 8) hC dX1_takeOver_42 (by decide) ?_
    refine J_copyi hC k_X1_30 (Nat.zero_le _) (Nat.le_of_ble_eq_true rfl) (Nat.le_of_ble_eq_true rfl) dX1_takeOver_44 h (fun M11 _ h => ?_)
    refine J_aload_n (j := 0) hC dX1_takeOver_47 rfl ?_
    refine J_aload_n (j := 1) hC dX1_takeOver_48 rfl ?_
    refine J_g1_2 hC k_X1_20 dX1_takeOver_49 h (fun v12 _ h => ?_)
    refine J_p1_2 hC k_X1_20 dX1_takeOver_52 h (fun M13 _ h => ?_)
    refine J_aload_n (j := 0) hC dX1_takeOver_55 rfl ?_
    refine J_aload_n (j := 1) hC dX1_takeOver_56 rfl ?_
    refine J_g1_3 hC k_X1_24 dX1_takeOver_57 h (fun v14 _ h => ?_)
    refine J_p1_3 hC k_X1_24 dX1_takeOver_60 h (fun M15 _ h => ?_)
    refine J_aload_n (j := 0) hC dX1_takeOver_63 rfl ?_
    refine J_aload_n (j := 1) hC dX1_takeOver_64 rfl ?_
    refine J_g1_4 hC k_X1_27 dX1_takeOver_65 h (fun v16 _ h => ?_)
    refine J_p1_4 hC k_X1_27 dX1_takeOver_68 h (fun M17 _ h => ?_)
    exact J_vret hC dX1_takeOver_71 (by have h9 := Option.some.inj h; subst h9; rfl) (Nat.le_of_ble_eq_true rfl) (Nat.le_of_ble_eq_true rfl)
abbrev rm_X2_save : Room := { frames := 2, cells := 0, slots := 0, locals := 48 }

set_option maxHeartbeats 4000000 in
set_option maxRecDepth 100000 in
theorem cX2_save_ok (M : Mem) (a0 : Option Nat) (r0 : Mem) (h : fX2_save M a0 = some r0) : ∀ l : Launch, l.stackTraces = false → Con false l yX2_save cX2_save 1 none rm_X2_save [rf a0] M (r0, Sum.inr none) := by
  intro l hst
  refine Con.enter hst (own := RX2) (by decide +kernel) rfl (by exact Nat.le_of_ble_eq_true rfl) (lv0 := [(0, rf a0)]) (rfl) (fun C hC hin => ?_)
  unfold fX2_save at h
  refine J_aload_n (j := 0) hC dX2_save_0 rfl ?_
  refine J_g2_2 hC k_X2_20 dX2_save_1 h (fun v1 _ h => ?_)
  refine J_bipush (v := 6) hC dX2_save_4 (by decide) ?_
  refine J_icmp_lt (tgt := 13) hC dX2_save_6 (by decide) (fun c2 => ?_) (fun c2 => ?_)
  · have h := ite_t c2 h
    refine J_aload_n (j := 0) hC dX2_save_13 rfl ?_
    refine J_g2_1 hC k_X2_16 dX2_save_14 h (fun v3 _ h => ?_)
    refine J_aload_n (j := 0) hC dX2_save_17 rfl ?_
    refine J_g2_2 hC k_X2_20 dX2_save_18 h (fun v4 _ h => ?_)
    refine J_aald8 hC dX2_save_21 h (fun v5 _ h => ?_)
    refine J_aload_n (j := 0) hC dX2_save_22 rfl ?_
    refine J_g2_0 hC k_X2_12 dX2_save_23 h (fun v6 _ h => ?_)
    refine ck_c h (fun ho h => ?_)
    refine bnd_c h (fun w7 hw h => ?_)
    refine J_callV (As := [rf v6]) (M' := w7) (rv := none) (st := []) hC (fun l hl => cX1_takeOver_ok M v5 v6 _ hw l hl) vm_X1_takeOver k_X2_140 ho ⟨rfl, rfl⟩ rfl ⟨Nat.le_of_ble_eq_true rfl, Nat.le_of_ble_eq_true rfl⟩ (Nat.zero_le _) ⟨Nat.le_of_ble_eq_true rfl, Nat.le_of_ble_eq_true rfl⟩ dX2_save_26 rfl ?_
    refine J_aload_n (j := 0) hC dX2_save_29 rfl ?_
    refine J_dup hC dX2_save_30 rfl ?_
    refine J_g2_2 hC k_X2_20 dX2_save_31 h (fun v8 _ h => ?_)
    refine J_iconst (v := 1) hC dX2_save_34 (by decide) ?_
    refine J_iadd hC dX2_save_35 ?_
    refine J_p2_2 hC k_X2_20 dX2_save_36 h (fun M9 _ h => ?_)
    exact J_vret hC dX2_save_39 (by have h9 := Option.some.inj h; subst h9; rfl) (Nat.le_of_ble_eq_true rfl) (Nat.le_of_ble_eq_true rfl)
  · have h := ite_f c2 h
    refine J_aload_n (j := 0) hC dX2_save_9 rfl ?_
    refine ck_c h (fun ho h => ?_)
    refine bnd_c h (fun w10 hw h => ?_)
    refine J_callV (As := []) (M' := w10) (rv := none) (st := []) hC (fun l hl => cX2_dropOldest_ok M a0 _ hw l hl) vm_X2_dropOldest k_X2_231 ho ⟨rfl, rfl⟩ rfl ⟨Nat.le_of_ble_eq_true rfl, Nat.le_of_ble_eq_true rfl⟩ (Nat.zero_le _) ⟨Nat.le_of_ble_eq_true rfl, Nat.le_of_ble_eq_true rfl⟩ dX2_save_10 rfl ?_
    refine J_aload_n (j := 0) hC dX2_save_13 rfl ?_
    refine J_g2_1 hC k_X2_16 dX2_save_14 h (fun v11 _ h => ?_)
    refine J_aload_n (j := 0) hC dX2_save_17 rfl ?_
    refine J_g2_2 hC k_X2_20 dX2_save_18 h (fun v12 _ h => ?_)
    refine J_aald8 hC dX2_save_21 h (fun v13 _ h => ?_)
    refine J_aload_n (j := 0) hC dX2_save_22 rfl ?_
    refine J_g2_0 hC k_X2_12 dX2_save_23 h (fun v14 _ h => ?_)
    refine ck_c h (fun ho h => ?_)
    refine bnd_c h (fun w15 hw h => ?_)
    refine J_callV (As := [rf v14]) (M' := w15) (rv := none) (st := []) hC (fun l hl => cX1_takeOver_ok w10 v13 v14 _ hw l hl) vm_X1_takeOver k_X2_140 ho ⟨rfl, rfl⟩ rfl ⟨Nat.le_of_ble_eq_true rfl, Nat.le_of_ble_eq_true rfl⟩ (Nat.zero_le _) ⟨Nat.le_of_ble_eq_true rfl, Nat.le_of_ble_eq_true rfl⟩ dX2_save_26 rfl ?_
    refine J_aload_n (j := 0) hC dX2_save_29 rfl ?_
    refine J_dup hC dX2_save_30 rfl ?_
    refine J_g2_2 hC k_X2_20 dX2_save_31 h (fun v16 _ h => ?_)
    refine J_iconst (v := 1) hC dX2_save_34 (by decide) ?_
    refine J_iadd hC dX2_save_35 ?_
    refine J_p2_2 hC k_X2_20 dX2_save_36 h (fun M17 _ h => ?_)
    exact J_vret hC dX2_save_39 (by have h9 := Option.some.inj h; subst h9; rfl) (Nat.le_of_ble_eq_true rfl) (Nat.le_of_ble_eq_true rfl)
abbrev rm_X2_notZero : Room := { frames := 0, cells := 0, slots := 0, locals := 0 }

set_option maxHeartbeats 4000000 in
set_option maxRecDepth 100000 in
theorem tX2_notZero_4 {C : JC} {r0 : Int32} (M : Mem) (x0 : Option Nat) (hC : Ok C false cX2_notZero 3 rm_X2_notZero (some .int) RX2 (M, Sum.inr (some (Value.int r0))))  (k25 : Int32 → Int32 → Option (Int32)) (hk25 : ∀ (x1 : Int32) (x2 : Int32), k25 x1 x2 = some r0 → J C 0 0 M 25 [(0, rf x0), (1, .int x1), (2, .int x2)] []) : ∀ (n : Nat) (x1 : Int32) (x2 : Int32), fX2_notZero_4 M x0 k25 n x1 x2 = some r0 → J C 0 0 M 4 [(0, rf x0), (1, .int x1), (2, .int x2)] [] := by
  intro n
  induction n with
  | zero => intro x1 x2 h; have h : none = some r0 := h; cases h
  | succ n ih =>
    intro x1 x2 h
    rw [fX2_notZero_4] at h
    refine J_iload_n (j := 2) hC dX2_notZero_4 rfl ?_
    refine J_bipush (v := 9) hC dX2_notZero_5 (by decide) ?_
    refine J_icmp_ge (tgt := 25) hC dX2_notZero_7 (by decide) (fun c1 => ?_) (fun c1 => ?_)
    · have h := ite_t c1 h
      refine J_sub [0, 1, 2] rfl ?_
      exact hk25 x1 x2 h
    · have h := ite_f c1 h
      refine J_aload_n (j := 0) hC dX2_notZero_10 rfl ?_
      refine J_iload_n (j := 2) hC dX2_notZero_11 rfl ?_
      refine J_iald hC dX2_notZero_12 h (fun v2 _ h => ?_)
      refine J_if_eq (tgt := 19) hC dX2_notZero_13 (by decide) (fun c3 => ?_) (fun c3 => ?_)
      · have h := ite_t c3 h
        refine J_inc (j := 2) (k := 1) (lv' := [(2, .int (x2 + 1)), (0, rf x0), (1, .int x1)]) hC dX2_notZero_19 (by decide) rfl (by decide) rfl ?_
        refine J_goto (tgt := 4) hC dX2_notZero_22 (by decide) ?_
        refine J_sub [1, 2, 0] rfl ?_
        exact ih x1 (x2 + 1) h
      · have h := ite_f c3 h
        refine J_inc (j := 1) (k := 1) (lv' := [(1, .int (x1 + 1)), (0, rf x0), (2, .int x2)]) hC dX2_notZero_16 (by decide) rfl (by decide) rfl ?_
        refine J_inc (j := 2) (k := 1) (lv' := [(2, .int (x2 + 1)), (1, .int (x1 + 1)), (0, rf x0)]) hC dX2_notZero_19 (by decide) rfl (by decide) rfl ?_
        refine J_goto (tgt := 4) hC dX2_notZero_22 (by decide) ?_
        refine J_sub [2, 1, 0] rfl ?_
        exact ih (x1 + 1) (x2 + 1) h
set_option maxHeartbeats 4000000 in
set_option maxRecDepth 100000 in
theorem cX2_notZero_ok (M : Mem) (a0 : Option Nat) (r0 : Int32) (h : fX2_notZero M a0 = some r0) : ∀ l : Launch, l.stackTraces = false → Con false l yX2_notZero cX2_notZero 3 (some .int) rm_X2_notZero [rf a0] M (M, Sum.inr (some (Value.int r0))) := by
  intro l hst
  refine Con.enter hst (own := RX2) (by decide +kernel) rfl (by exact Nat.le_of_ble_eq_true rfl) (lv0 := [(0, rf a0)]) (rfl) (fun C hC hin => ?_)
  unfold fX2_notZero at h
  refine J_iconst (v := 0) hC dX2_notZero_0 (by decide) ?_
  refine J_istore_n (i := 1) (lv' := [(1, .int 0), (0, rf a0)]) rfl hC dX2_notZero_1 (by decide) rfl ?_
  refine J_iconst (v := 0) hC dX2_notZero_2 (by decide) ?_
  refine J_istore_n (i := 2) (lv' := [(2, .int 0), (1, .int 0), (0, rf a0)]) rfl hC dX2_notZero_3 (by decide) rfl ?_
  refine J_sub [2, 1, 0] rfl ?_
  refine tX2_notZero_4 M a0 hC _ (fun x4 x5 h => ?_) FU 0 0 h
  · refine J_iload_n (j := 1) hC dX2_notZero_25 rfl ?_
    exact J_iret hC dX2_notZero_26 (by have h9 := Option.some.inj h; subst h9; rfl) (Nat.le_of_ble_eq_true rfl) (Nat.le_of_ble_eq_true rfl)
abbrev rm_X2_isAloneNotZero : Room := { frames := 1, cells := 0, slots := 0, locals := 22 }

set_option maxHeartbeats 4000000 in
set_option maxRecDepth 100000 in
theorem cX2_isAloneNotZero_ok (M : Mem) (a0 : Option Nat) (a1 : Int32) (r0 : Int32) (h : fX2_isAloneNotZero M a0 a1 = some r0) : ∀ l : Launch, l.stackTraces = false → Con false l yX2_isAloneNotZero cX2_isAloneNotZero 2 (some .boolean) rm_X2_isAloneNotZero [rf a0, .int a1] M (M, Sum.inr (some (Value.int r0))) := by
  intro l hst
  refine Con.enter hst (own := RX2) (by decide +kernel) rfl (by exact Nat.le_of_ble_eq_true rfl) (lv0 := [(0, rf a0), (1, .int a1)]) (rfl) (fun C hC hin => ?_)
  unfold fX2_isAloneNotZero at h
  refine J_aload_n (j := 0) hC dX2_isAloneNotZero_0 rfl ?_
  refine J_iload_n (j := 1) hC dX2_isAloneNotZero_1 rfl ?_
  refine J_iald hC dX2_isAloneNotZero_2 h (fun v1 _ h => ?_)
  refine J_if_eq (tgt := 18) hC dX2_isAloneNotZero_3 (by decide) (fun c2 => ?_) (fun c2 => ?_)
  · have h := ite_t c2 h
    refine J_iconst (v := 0) hC dX2_isAloneNotZero_18 (by decide) ?_
    exact J_zret hC dX2_isAloneNotZero_19 (by decide) (by have h9 := Option.some.inj h; subst h9; rfl) (Nat.le_of_ble_eq_true rfl) (Nat.le_of_ble_eq_true rfl)
  · have h := ite_f c2 h
    refine J_aload_n (j := 0) hC dX2_isAloneNotZero_6 rfl ?_
    refine bnd_c h (fun w3 hw h => ?_)
    refine J_callS (As := [rf a0]) (M' := M) (rv := some (Value.int w3)) (st := []) hC (fun l hl => cX2_notZero_ok M a0 _ hw l hl) sm_X2_notZero k_X2_155 rfl ⟨Nat.le_of_ble_eq_true rfl, Nat.le_of_ble_eq_true rfl⟩ (Nat.zero_le _) ⟨Nat.le_of_ble_eq_true rfl, Nat.le_of_ble_eq_true rfl⟩ dX2_isAloneNotZero_7 rfl ?_
    refine J_iconst (v := 1) hC dX2_isAloneNotZero_10 (by decide) ?_
    have hj : ∀ (z4 : Int32), z4 = (if w3 = 1 then 1 else 0) → J C 0 0 M 19 [(0, rf a0), (1, .int a1)] [.int z4] := by
      intro z4 ez4
      subst ez4
      exact J_zret hC dX2_isAloneNotZero_19 (by (repeat' split) <;> decide) (by have h9 := Option.some.inj h; subst h9; rfl) (Nat.le_of_ble_eq_true rfl) (Nat.le_of_ble_eq_true rfl)
    refine J_icmp_ne (tgt := 18) hC dX2_isAloneNotZero_11 (by decide) (fun c5 => ?_) (fun c5 => ?_)
    · refine J_iconst (v := 0) hC dX2_isAloneNotZero_18 (by decide) ?_
      refine J_sub [0, 1] rfl ?_
      exact hj _ (if_neg c5).symm
    · refine J_iconst (v := 1) hC dX2_isAloneNotZero_14 (by decide) ?_
      refine J_goto (tgt := 19) hC dX2_isAloneNotZero_15 (by decide) ?_
      refine J_sub [0, 1] rfl ?_
      exact hj _ (if_pos c5).symm
abbrev rm_X2_degreeOf : Room := { frames := 0, cells := 0, slots := 0, locals := 0 }

set_option maxHeartbeats 4000000 in
set_option maxRecDepth 100000 in
theorem tX2_degreeOf_3 {C : JC} {r0 : Int32} (M : Mem) (x0 : Option Nat) (hC : Ok C false cX2_degreeOf 2 rm_X2_degreeOf (some .int) RX2 (M, Sum.inr (some (Value.int r0))))  (k13 : Int32 → Option (Int32)) (k21 : Int32 → Option (Int32)) (hk13 : ∀ (x1 : Int32), k13 x1 = some r0 → J C 0 0 M 13 [(0, rf x0), (1, .int x1)] []) (hk21 : ∀ (x1 : Int32), k21 x1 = some r0 → J C 0 0 M 21 [(0, rf x0), (1, .int x1)] []) : ∀ (n : Nat) (x1 : Int32), fX2_degreeOf_3 M x0 k13 k21 n x1 = some r0 → J C 0 0 M 3 [(0, rf x0), (1, .int x1)] [] := by
  intro n
  induction n with
  | zero => intro x1 h; have h : none = some r0 := h; cases h
  | succ n ih =>
    intro x1 h
    rw [fX2_degreeOf_3] at h
    refine J_iload_n (j := 1) hC dX2_degreeOf_3 rfl ?_
    refine J_if_le (tgt := 21) hC dX2_degreeOf_4 (by decide) (fun c1 => ?_) (fun c1 => ?_)
    · have h := ite_t c1 h
      refine J_sub [0, 1] rfl ?_
      exact hk21 x1 h
    · have h := ite_f c1 h
      refine J_aload_n (j := 0) hC dX2_degreeOf_7 rfl ?_
      refine J_iload_n (j := 1) hC dX2_degreeOf_8 rfl ?_
      refine J_iald hC dX2_degreeOf_9 h (fun v2 _ h => ?_)
      refine J_if_eq (tgt := 15) hC dX2_degreeOf_10 (by decide) (fun c3 => ?_) (fun c3 => ?_)
      · have h := ite_t c3 h
        refine J_inc (j := 1) (k := (-1)) (lv' := [(1, .int (x1 + (-1))), (0, rf x0)]) hC dX2_degreeOf_15 (by decide) rfl (by decide) rfl ?_
        refine J_goto (tgt := 3) hC dX2_degreeOf_18 (by decide) ?_
        refine J_sub [1, 0] rfl ?_
        exact ih (x1 + (-1)) h
      · have h := ite_f c3 h
        refine J_sub [0, 1] rfl ?_
        exact hk13 x1 h
set_option maxHeartbeats 4000000 in
set_option maxRecDepth 100000 in
theorem cX2_degreeOf_ok (M : Mem) (a0 : Option Nat) (r0 : Int32) (h : fX2_degreeOf M a0 = some r0) : ∀ l : Launch, l.stackTraces = false → Con false l yX2_degreeOf cX2_degreeOf 2 (some .int) rm_X2_degreeOf [rf a0] M (M, Sum.inr (some (Value.int r0))) := by
  intro l hst
  refine Con.enter hst (own := RX2) (by decide +kernel) rfl (by exact Nat.le_of_ble_eq_true rfl) (lv0 := [(0, rf a0)]) (rfl) (fun C hC hin => ?_)
  unfold fX2_degreeOf at h
  refine J_bipush (v := 8) hC dX2_degreeOf_0 (by decide) ?_
  refine J_istore_n (i := 1) (lv' := [(1, .int 8), (0, rf a0)]) rfl hC dX2_degreeOf_2 (by decide) rfl ?_
  refine J_sub [1, 0] rfl ?_
  refine tX2_degreeOf_3 M a0 hC _ _ (fun x4 h => ?_) (fun x5 h => ?_) FU 8 h
  · refine J_iload_n (j := 1) hC dX2_degreeOf_13 rfl ?_
    exact J_iret hC dX2_degreeOf_14 (by have h9 := Option.some.inj h; subst h9; rfl) (Nat.le_of_ble_eq_true rfl) (Nat.le_of_ble_eq_true rfl)
  · refine J_iconst (v := 0) hC dX2_degreeOf_21 (by decide) ?_
    exact J_iret hC dX2_degreeOf_22 (by have h9 := Option.some.inj h; subst h9; rfl) (Nat.le_of_ble_eq_true rfl) (Nat.le_of_ble_eq_true rfl)
abbrev rm_X2_put : Room := { frames := 3, cells := 0, slots := 0, locals := 68 }

set_option maxHeartbeats 4000000 in
set_option maxRecDepth 100000 in
theorem cX2_put_ok (M : Mem) (a0 : Option Nat) (a1 : Int32) (a2 : Int32) (a3 : Int32) (r0 : Mem × Int32) (h : fX2_put M a0 a1 a2 a3 = some r0) : ∀ l : Launch, l.stackTraces = false → Con false l yX2_put cX2_put 5 (some .int) rm_X2_put [rf a0, .int a1, .int a2, .int a3] M (r0.1, Sum.inr (some (Value.int r0.2))) := by
  intro l hst
  refine Con.enter hst (own := RX2) (by decide +kernel) rfl (by exact Nat.le_of_ble_eq_true rfl) (lv0 := [(0, rf a0), (1, .int a1), (2, .int a2), (3, .int a3)]) (rfl) (fun C hC hin => ?_)
  unfold fX2_put at h
  refine J_iload_n (j := 1) hC dX2_put_0 rfl ?_
  refine bnd_c h (fun w1 hw h => ?_)
  refine J_callS (As := [.int a1]) (M' := M) (rv := none) (st := []) hC (fun l hl => cX2_checkNumber_ok M a1 _ hw l hl) sm_X2_checkNumber k_X2_56 rfl ⟨Nat.le_of_ble_eq_true rfl, Nat.le_of_ble_eq_true rfl⟩ (Nat.zero_le _) ⟨Nat.le_of_ble_eq_true rfl, Nat.le_of_ble_eq_true rfl⟩ dX2_put_1 rfl ?_
  refine J_iload_n (j := 2) hC dX2_put_4 rfl ?_
  refine bnd_c h (fun w2 hw h => ?_)
  refine J_callS (As := [.int a2]) (M' := M) (rv := none) (st := []) hC (fun l hl => cX2_checkPower_ok M a2 _ hw l hl) sm_X2_checkPower k_X2_60 rfl ⟨Nat.le_of_ble_eq_true rfl, Nat.le_of_ble_eq_true rfl⟩ (Nat.zero_le _) ⟨Nat.le_of_ble_eq_true rfl, Nat.le_of_ble_eq_true rfl⟩ dX2_put_5 rfl ?_
  refine J_iload_n (j := 3) hC dX2_put_8 rfl ?_
  refine bnd_c h (fun w3 hw h => ?_)
  refine J_callS (As := [.int a3]) (M' := M) (rv := none) (st := []) hC (fun l hl => cX2_checkSign_ok M a3 _ hw l hl) sm_X2_checkSign k_X2_63 rfl ⟨Nat.le_of_ble_eq_true rfl, Nat.le_of_ble_eq_true rfl⟩ (Nat.zero_le _) ⟨Nat.le_of_ble_eq_true rfl, Nat.le_of_ble_eq_true rfl⟩ dX2_put_9 rfl ?_
  refine J_aload_n (j := 0) hC dX2_put_12 rfl ?_
  refine ck_c h (fun ho h => ?_)
  refine bnd_c h (fun w4 hw h => ?_)
  refine J_callV (As := []) (M' := w4) (rv := none) (st := []) hC (fun l hl => cX2_save_ok M a0 _ hw l hl) vm_X2_save k_X2_66 ho ⟨rfl, rfl⟩ rfl ⟨Nat.le_of_ble_eq_true rfl, Nat.le_of_ble_eq_true rfl⟩ (Nat.zero_le _) ⟨Nat.le_of_ble_eq_true rfl, Nat.le_of_ble_eq_true rfl⟩ dX2_put_13 rfl ?_
  refine J_aload_n (j := 0) hC dX2_put_16 rfl ?_
  refine J_g2_0 hC k_X2_12 dX2_put_17 h (fun v5 _ h => ?_)
  refine J_g1_0 hC k_X2_69 dX2_put_20 h (fun v6 _ h => ?_)
  refine J_iload_n (j := 1) hC dX2_put_23 rfl ?_
  refine J_aald9 hC dX2_put_24 h (fun v7 _ h => ?_)
  refine J_astore (lv' := [(4, rf v7), (0, rf a0), (1, .int a1), (2, .int a2), (3, .int a3)]) hC dX2_put_25 (by decide) rfl ?_
  refine J_iload_n (j := 4) hC dX2_put_27 rfl ?_
  refine J_if_ne (tgt := 56) hC dX2_put_28 (by decide) (fun c8 => ?_) (fun c8 => ?_)
  · have h := ite_f c8 h
    refine J_aload (j := 0) hC dX2_put_56 rfl ?_
    refine J_iload_n (j := 3) hC dX2_put_58 rfl ?_
    refine J_iload_n (j := 4) hC dX2_put_59 rfl ?_
    refine J_iast hC dX2_put_60 h (fun M16 _ h => ?_)
    refine J_aload (j := 0) hC dX2_put_61 rfl ?_
    refine bnd_c h (fun w17 hw h => ?_)
    refine J_callS (As := [rf v7]) (M' := M16) (rv := some (Value.int w17)) (st := []) hC (fun l hl => cX2_degreeOf_ok M16 v7 _ hw l hl) sm_X2_degreeOf k_X2_80 rfl ⟨Nat.le_of_ble_eq_true rfl, Nat.le_of_ble_eq_true rfl⟩ (Nat.zero_le _) ⟨Nat.le_of_ble_eq_true rfl, Nat.le_of_ble_eq_true rfl⟩ dX2_put_63 rfl ?_
    exact J_iret hC dX2_put_66 (by have h9 := Option.some.inj h; subst h9; rfl) (Nat.le_of_ble_eq_true rfl) (Nat.le_of_ble_eq_true rfl)
  · have h := ite_t c8 h
    refine J_aload (j := 0) hC dX2_put_31 rfl ?_
    refine J_iload_n (j := 3) hC dX2_put_33 rfl ?_
    refine bnd_c h (fun w9 hw h => ?_)
    refine J_callS (As := [rf v7, .int a2]) (M' := w4) (rv := some (Value.int w9)) (st := []) hC (fun l hl => cX2_isAloneNotZero_ok w4 v7 a2 _ hw l hl) sm_X2_isAloneNotZero k_X2_73 rfl ⟨Nat.le_of_ble_eq_true rfl, Nat.le_of_ble_eq_true rfl⟩ (Nat.zero_le _) ⟨Nat.le_of_ble_eq_true rfl, Nat.le_of_ble_eq_true rfl⟩ dX2_put_34 rfl ?_
    refine J_if_eq (tgt := 56) hC dX2_put_37 (by decide) (fun c10 => ?_) (fun c10 => ?_)
    · have h := ite_t c10 h
      refine J_aload (j := 0) hC dX2_put_56 rfl ?_
      refine J_iload_n (j := 3) hC dX2_put_58 rfl ?_
      refine J_iload_n (j := 4) hC dX2_put_59 rfl ?_
      refine J_iast hC dX2_put_60 h (fun M11 _ h => ?_)
      refine J_aload (j := 0) hC dX2_put_61 rfl ?_
      refine bnd_c h (fun w12 hw h => ?_)
      refine J_callS (As := [rf v7]) (M' := M11) (rv := some (Value.int w12)) (st := []) hC (fun l hl => cX2_degreeOf_ok M11 v7 _ hw l hl) sm_X2_degreeOf k_X2_80 rfl ⟨Nat.le_of_ble_eq_true rfl, Nat.le_of_ble_eq_true rfl⟩ (Nat.zero_le _) ⟨Nat.le_of_ble_eq_true rfl, Nat.le_of_ble_eq_true rfl⟩ dX2_put_63 rfl ?_
      exact J_iret hC dX2_put_66 (by have h9 := Option.some.inj h; subst h9; rfl) (Nat.le_of_ble_eq_true rfl) (Nat.le_of_ble_eq_true rfl)
    · have h := ite_f c10 h
      refine J_aload_n (j := 1) hC dX2_put_40 rfl ?_
      refine J_g2_0 hC k_X2_12 dX2_put_41 h (fun v13 _ h => ?_)
      refine J_dup hC dX2_put_44 rfl ?_
      refine J_g1_4 hC k_X2_77 dX2_put_45 h (fun v14 _ h => ?_)
      refine J_iconst (v := 1) hC dX2_put_48 (by decide) ?_
      refine J_iadd hC dX2_put_49 ?_
      refine J_p1_4 hC k_X2_77 dX2_put_50 h (fun M15 _ h => ?_)
      refine J_bipush (v := (-9)) hC dX2_put_53 (by decide) ?_
      exact J_iret hC dX2_put_55 (by have h9 := Option.some.inj h; subst h9; rfl) (Nat.le_of_ble_eq_true rfl) (Nat.le_of_ble_eq_true rfl)
abbrev rm_X2_copy : Room := { frames := 3, cells := 0, slots := 0, locals := 68 }

set_option maxHeartbeats 4000000 in
set_option maxRecDepth 100000 in
theorem cX2_copy_ok (M : Mem) (a0 : Option Nat) (a1 : Int32) (a2 : Int32) (r0 : Mem × Int32) (h : fX2_copy M a0 a1 a2 = some r0) : ∀ l : Launch, l.stackTraces = false → Con false l yX2_copy cX2_copy 3 (some .int) rm_X2_copy [rf a0, .int a1, .int a2] M (r0.1, Sum.inr (some (Value.int r0.2))) := by
  intro l hst
  refine Con.enter hst (own := RX2) (by decide +kernel) rfl (by exact Nat.le_of_ble_eq_true rfl) (lv0 := [(0, rf a0), (1, .int a1), (2, .int a2)]) (rfl) (fun C hC hin => ?_)
  unfold fX2_copy at h
  refine J_iload_n (j := 1) hC dX2_copy_0 rfl ?_
  refine bnd_c h (fun w1 hw h => ?_)
  refine J_callS (As := [.int a1]) (M' := M) (rv := none) (st := []) hC (fun l hl => cX2_checkNumber_ok M a1 _ hw l hl) sm_X2_checkNumber k_X2_56 rfl ⟨Nat.le_of_ble_eq_true rfl, Nat.le_of_ble_eq_true rfl⟩ (Nat.zero_le _) ⟨Nat.le_of_ble_eq_true rfl, Nat.le_of_ble_eq_true rfl⟩ dX2_copy_1 rfl ?_
  refine J_iload_n (j := 2) hC dX2_copy_4 rfl ?_
  refine bnd_c h (fun w2 hw h => ?_)
  refine J_callS (As := [.int a2]) (M' := M) (rv := none) (st := []) hC (fun l hl => cX2_checkNumber_ok M a2 _ hw l hl) sm_X2_checkNumber k_X2_56 rfl ⟨Nat.le_of_ble_eq_true rfl, Nat.le_of_ble_eq_true rfl⟩ (Nat.zero_le _) ⟨Nat.le_of_ble_eq_true rfl, Nat.le_of_ble_eq_true rfl⟩ dX2_copy_5 rfl ?_
  refine J_aload_n (j := 0) hC dX2_copy_8 rfl ?_
  refine ck_c h (fun ho h => ?_)
  refine bnd_c h (fun w3 hw h => ?_)
  refine J_callV (As := []) (M' := w3) (rv := none) (st := []) hC (fun l hl => cX2_save_ok M a0 _ hw l hl) vm_X2_save k_X2_66 ho ⟨rfl, rfl⟩ rfl ⟨Nat.le_of_ble_eq_true rfl, Nat.le_of_ble_eq_true rfl⟩ (Nat.zero_le _) ⟨Nat.le_of_ble_eq_true rfl, Nat.le_of_ble_eq_true rfl⟩ dX2_copy_9 rfl ?_
  refine J_aload_n (j := 0) hC dX2_copy_12 rfl ?_
  refine J_g2_0 hC k_X2_12 dX2_copy_13 h (fun v4 _ h => ?_)
  refine J_g1_0 hC k_X2_69 dX2_copy_16 h (fun v5 _ h => ?_)
  refine J_iload_n (j := 1) hC dX2_copy_19 rfl ?_
  refine J_aald9 hC dX2_copy_20 h (fun v6 _ h => ?_)
  refine J_iconst (v := 0) hC dX2_copy_21 (by decide) ?_
  refine J_aload_n (j := 0) hC dX2_copy_22 rfl ?_
  refine J_g2_0 hC k_X2_12 dX2_copy_23 h (fun v7 _ h => ?_)
  refine J_g1_0 hC k_X2_69 dX2_copy_26 h (fun v8 _ h => ?_)
  refine J_iload_n (j := 2) hC dX2_copy_29 rfl ?_
  refine J_aald9 hC dX2_copy_30 h (fun v9 _ h => ?_)
  refine J_iconst (v := 0) hC dX2_copy_31 (by decide) ?_
  refine J_bipush (v := 9) hC dX2_copy_32 (by decide) ?_
  refine J_copyi hC k_X2_84 (Nat.zero_le _) (Nat.le_of_ble_eq_true rfl) (Nat.le_of_ble_eq_true rfl) dX2_copy_34 h (fun M10 _ h => ?_)
  refine J_aload_n (j := 0) hC dX2_copy_37 rfl ?_
  refine J_g2_0 hC k_X2_12 dX2_copy_38 h (fun v11 _ h => ?_)
  refine J_g1_0 hC k_X2_69 dX2_copy_41 h (fun v12 _ h => ?_)
  refine J_iload_n (j := 2) hC dX2_copy_44 rfl ?_
  refine J_aald9 hC dX2_copy_45 h (fun v13 _ h => ?_)
  refine bnd_c h (fun w14 hw h => ?_)
  refine J_callS (As := [rf v13]) (M' := M10) (rv := some (Value.int w14)) (st := []) hC (fun l hl => cX2_degreeOf_ok M10 v13 _ hw l hl) sm_X2_degreeOf k_X2_80 rfl ⟨Nat.le_of_ble_eq_true rfl, Nat.le_of_ble_eq_true rfl⟩ (Nat.zero_le _) ⟨Nat.le_of_ble_eq_true rfl, Nat.le_of_ble_eq_true rfl⟩ dX2_copy_46 rfl ?_
  exact J_iret hC dX2_copy_49 (by have h9 := Option.some.inj h; subst h9; rfl) (Nat.le_of_ble_eq_true rfl) (Nat.le_of_ble_eq_true rfl)
abbrev rm_X0_start : Room := { frames := 1, cells := 0, slots := 0, locals := 21 }

set_option maxHeartbeats 4000000 in
set_option maxRecDepth 100000 in
theorem tX0_start_2 {C : JC} {r0 : Mem} (x0 : Option Nat) (x1 : Option Nat) (x2 : Int32) (hC : Ok C false cX0_start 4 rm_X0_start none RX0 (r0, Sum.inr none))  (k30 : Mem → Int32 → Option (Mem)) (hk30 : ∀ (M : Mem) (x3 : Int32), k30 M x3 = some r0 → J C 0 0 M 30 [(0, rf x0), (1, rf x1), (2, .int x2), (3, .int x3)] []) : ∀ (n : Nat) (M : Mem) (x3 : Int32), fX0_start_2 x0 x1 x2 k30 n M x3 = some r0 → J C 0 0 M 2 [(0, rf x0), (1, rf x1), (2, .int x2), (3, .int x3)] [] := by
  intro n
  induction n with
  | zero => intro M x3 h; have h : none = some r0 := h; cases h
  | succ n ih =>
    intro M x3 h
    rw [fX0_start_2] at h
    refine J_iload_n (j := 3) hC dX0_start_2 rfl ?_
    refine J_bipush (v := 9) hC dX0_start_3 (by decide) ?_
    refine J_icmp_ge (tgt := 30) hC dX0_start_5 (by decide) (fun c1 => ?_) (fun c1 => ?_)
    · have h := ite_t c1 h
      refine J_sub [0, 1, 2, 3] rfl ?_
      exact hk30 M x3 h
    · have h := ite_f c1 h
      refine J_aload_n (j := 0) hC dX0_start_8 rfl ?_
      refine J_g0_0 hC k_X0_9 dX0_start_9 h (fun v2 _ h => ?_)
      refine J_iload_n (j := 3) hC dX0_start_12 rfl ?_
      refine J_aload_n (j := 1) hC dX0_start_13 rfl ?_
      refine J_iload_n (j := 3) hC dX0_start_14 rfl ?_
      refine J_iald hC dX0_start_15 h (fun v3 _ h => ?_)
      refine J_iast hC dX0_start_16 h (fun M4 _ h => ?_)
      refine J_aload_n (j := 0) hC dX0_start_17 rfl ?_
      refine J_g0_1 hC k_X0_15 dX0_start_18 h (fun v5 _ h => ?_)
      refine J_iload_n (j := 3) hC dX0_start_21 rfl ?_
      refine J_iconst (v := 0) hC dX0_start_22 (by decide) ?_
      refine J_iast hC dX0_start_23 h (fun M6 _ h => ?_)
      refine J_inc (j := 3) (k := 1) (lv' := [(3, .int (x3 + 1)), (0, rf x0), (1, rf x1), (2, .int x2)]) hC dX0_start_24 (by decide) rfl (by decide) rfl ?_
      refine J_goto (tgt := 2) hC dX0_start_27 (by decide) ?_
      refine J_sub [1, 2, 3, 0] rfl ?_
      exact ih M6 (x3 + 1) h
set_option maxHeartbeats 4000000 in
set_option maxRecDepth 100000 in
theorem cX0_start_ok (M : Mem) (a0 : Option Nat) (a1 : Option Nat) (a2 : Int32) (r0 : Mem) (h : fX0_start M a0 a1 a2 = some r0) : ∀ l : Launch, l.stackTraces = false → Con false l yX0_start cX0_start 4 none rm_X0_start [rf a0, rf a1, .int a2] M (r0, Sum.inr none) := by
  intro l hst
  refine Con.enter hst (own := RX0) (by decide +kernel) rfl (by exact Nat.le_of_ble_eq_true rfl) (lv0 := [(0, rf a0), (1, rf a1), (2, .int a2)]) (rfl) (fun C hC hin => ?_)
  unfold fX0_start at h
  refine J_iconst (v := 0) hC dX0_start_0 (by decide) ?_
  refine J_istore_n (i := 3) (lv' := [(3, .int 0), (0, rf a0), (1, rf a1), (2, .int a2)]) rfl hC dX0_start_1 (by decide) rfl ?_
  refine J_sub [1, 2, 3, 0] rfl ?_
  refine tX0_start_2 a0 a1 a2 hC _ (fun M7 x8 h => ?_) FU M 0 h
  · refine J_aload_n (j := 0) hC dX0_start_30 rfl ?_
    refine J_iload_n (j := 2) hC dX0_start_31 rfl ?_
    refine J_p0_3 hC k_X0_21 dX0_start_32 h (fun M9 _ h => ?_)
    refine J_aload_n (j := 0) hC dX0_start_35 rfl ?_
    refine J_aload_n (j := 1) hC dX0_start_36 rfl ?_
    refine bnd_c h (fun w10 hw h => ?_)
    refine J_callSN (As := [rf a1]) (M' := M9) (rv := some (Value.int w10)) (st := [rf a0]) hC (fun l hl => cX2_degreeOf_ok M9 a1 _ hw l hl) sm_X2_degreeOf (fun U h => h.1.2) rfl ⟨Nat.le_of_ble_eq_true rfl, Nat.le_of_ble_eq_true rfl⟩ (Nat.le_of_ble_eq_true rfl) ⟨Nat.le_of_ble_eq_true rfl, Nat.le_of_ble_eq_true rfl⟩ dX0_start_37 rfl ?_
    refine J_iconst (v := 1) hC dX0_start_40 (by decide) ?_
    refine J_isub hC dX0_start_41 ?_
    refine J_p0_4 hC k_X0_25 dX0_start_42 h (fun M11 _ h => ?_)
    refine J_aload_n (j := 0) hC dX0_start_45 rfl ?_
    refine J_aload_n (j := 0) hC dX0_start_46 rfl ?_
    refine J_g0_4 hC k_X0_25 dX0_start_47 h (fun v12 _ h => ?_)
    have hj : ∀ (z19 : Int32), z19 = (if 0 ≤ v12 then 0 else (-1)) → J C 0 0 M11 58 [(0, rf a0), (1, rf a1), (2, .int a2), (3, .int x8)] [.int z19, rf a0] := by
      intro z19 ez19
      subst ez19
      refine J_p0_5 hC k_X0_28 dX0_start_58 h (fun M13 _ h => ?_)
      refine J_aload_n (j := 0) hC dX0_start_61 rfl ?_
      refine J_g0_1 hC k_X0_15 dX0_start_62 h (fun v14 _ h => ?_)
      refine J_iconst (v := 0) hC dX0_start_65 (by decide) ?_
      refine J_aload_n (j := 0) hC dX0_start_66 rfl ?_
      refine J_g0_4 hC k_X0_25 dX0_start_67 h (fun v15 _ h => ?_)
      have hj : ∀ (z17 : Int32), z17 = (if 0 ≤ v15 then (-2) else 0) → J C 0 0 M13 79 [(0, rf a0), (1, rf a1), (2, .int a2), (3, .int x8)] [.int z17, .int 0, rf v14] := by
        intro z17 ez17
        subst ez17
        refine J_iast hC dX0_start_79 h (fun M16 _ h => ?_)
        exact J_vret hC dX0_start_80 (by have h9 := Option.some.inj h; subst h9; rfl) (Nat.le_of_ble_eq_true rfl) (Nat.le_of_ble_eq_true rfl)
      refine J_if_ge (tgt := 77) hC dX0_start_70 (by decide) (fun c18 => ?_) (fun c18 => ?_)
      · refine J_bipush (v := (-2)) hC dX0_start_77 (by decide) ?_
        refine J_sub [0, 1, 2, 3] rfl ?_
        exact hj _ (if_pos c18).symm
      · refine J_iconst (v := 0) hC dX0_start_73 (by decide) ?_
        refine J_goto (tgt := 79) hC dX0_start_74 (by decide) ?_
        refine J_sub [0, 1, 2, 3] rfl ?_
        exact hj _ (if_neg c18).symm
    refine J_if_ge (tgt := 57) hC dX0_start_50 (by decide) (fun c20 => ?_) (fun c20 => ?_)
    · refine J_iconst (v := 0) hC dX0_start_57 (by decide) ?_
      refine J_sub [0, 1, 2, 3] rfl ?_
      exact hj _ (if_pos c20).symm
    · refine J_iconst (v := (-1)) hC dX0_start_53 (by decide) ?_
      refine J_goto (tgt := 58) hC dX0_start_54 (by decide) ?_
      refine J_sub [0, 1, 2, 3] rfl ?_
      exact hj _ (if_neg c20).symm
abbrev rm_X2_markOf : Room := { frames := 0, cells := 0, slots := 0, locals := 0 }

set_option maxHeartbeats 4000000 in
set_option maxRecDepth 100000 in
theorem cX2_markOf_ok (M : Mem) (a0 : Int32) (r0 : Int32) (h : fX2_markOf M a0 = some r0) : ∀ l : Launch, l.stackTraces = false → Con false l yX2_markOf cX2_markOf 1 (some .int) rm_X2_markOf [.int a0] M (M, Sum.inr (some (Value.int r0))) := by
  intro l hst
  refine Con.enter hst (own := RX2) (by decide +kernel) rfl (by exact Nat.le_of_ble_eq_true rfl) (lv0 := [(0, .int a0)]) (rfl) (fun C hC hin => ?_)
  unfold fX2_markOf at h
  refine J_iload_n (j := 0) hC dX2_markOf_0 rfl ?_
  have hj : ∀ (z1 : Int32), z1 = (if a0 ≤ 0 then (if 0 ≤ a0 then 0 else 2) else 1) → J C 0 0 M 17 [(0, .int a0)] [.int z1] := by
    intro z1 ez1
    subst ez1
    exact J_iret hC dX2_markOf_17 (by have h9 := Option.some.inj h; subst h9; rfl) (Nat.le_of_ble_eq_true rfl) (Nat.le_of_ble_eq_true rfl)
  refine J_if_le (tgt := 8) hC dX2_markOf_1 (by decide) (fun c2 => ?_) (fun c2 => ?_)
  · refine J_iload_n (j := 0) hC dX2_markOf_8 rfl ?_
    refine J_if_ge (tgt := 16) hC dX2_markOf_9 (by decide) (fun c3 => ?_) (fun c3 => ?_)
    · refine J_iconst (v := 0) hC dX2_markOf_16 (by decide) ?_
      refine J_sub [0] rfl ?_
      exact hj _ ((if_pos c2).trans (if_pos c3)).symm
    · refine J_iconst (v := 2) hC dX2_markOf_12 (by decide) ?_
      refine J_goto (tgt := 17) hC dX2_markOf_13 (by decide) ?_
      refine J_sub [0] rfl ?_
      exact hj _ ((if_pos c2).trans (if_neg c3)).symm
  · refine J_iconst (v := 1) hC dX2_markOf_4 (by decide) ?_
    refine J_goto (tgt := 17) hC dX2_markOf_5 (by decide) ?_
    refine J_sub [0] rfl ?_
    exact hj _ (if_neg c2).symm
abbrev rm_X2_holds : Room := { frames := 1, cells := 0, slots := 0, locals := 20 }

set_option maxHeartbeats 4000000 in
set_option maxRecDepth 100000 in
theorem cX2_holds_ok (M : Mem) (a0 : Int32) (a1 : Int32) (r0 : Int32) (h : fX2_holds M a0 a1 = some r0) : ∀ l : Launch, l.stackTraces = false → Con false l yX2_holds cX2_holds 2 (some .boolean) rm_X2_holds [.int a0, .int a1] M (M, Sum.inr (some (Value.int r0))) := by
  intro l hst
  refine Con.enter hst (own := RX2) (by decide +kernel) rfl (by exact Nat.le_of_ble_eq_true rfl) (lv0 := [(0, .int a0), (1, .int a1)]) (rfl) (fun C hC hin => ?_)
  unfold fX2_holds at h
  refine J_iload_n (j := 0) hC dX2_holds_0 rfl ?_
  refine J_iconst (v := 3) hC dX2_holds_1 (by decide) ?_
  refine J_icmp_eq (tgt := 13) hC dX2_holds_2 (by decide) (fun c1 => ?_) (fun c1 => ?_)
  · have h := ite_t c1 h
    refine J_iconst (v := 1) hC dX2_holds_13 (by decide) ?_
    refine J_goto (tgt := 18) hC dX2_holds_14 (by decide) ?_
    exact J_zret hC dX2_holds_18 (by decide) (by have h9 := Option.some.inj h; subst h9; rfl) (Nat.le_of_ble_eq_true rfl) (Nat.le_of_ble_eq_true rfl)
  · have h := ite_f c1 h
    refine J_iload_n (j := 0) hC dX2_holds_5 rfl ?_
    refine J_iload_n (j := 1) hC dX2_holds_6 rfl ?_
    refine bnd_c h (fun w2 hw h => ?_)
    refine J_callS (As := [.int a1]) (M' := M) (rv := some (Value.int w2)) (st := [.int a0]) hC (fun l hl => cX2_markOf_ok M a1 _ hw l hl) sm_X2_markOf k_X2_234 rfl ⟨Nat.le_of_ble_eq_true rfl, Nat.le_of_ble_eq_true rfl⟩ (Nat.le_of_ble_eq_true rfl) ⟨Nat.le_of_ble_eq_true rfl, Nat.le_of_ble_eq_true rfl⟩ dX2_holds_7 rfl ?_
    have hj : ∀ (z3 : Int32), z3 = (if a0 = w2 then 1 else 0) → J C 0 0 M 18 [(0, .int a0), (1, .int a1)] [.int z3] := by
      intro z3 ez3
      subst ez3
      exact J_zret hC dX2_holds_18 (by (repeat' split) <;> decide) (by have h9 := Option.some.inj h; subst h9; rfl) (Nat.le_of_ble_eq_true rfl) (Nat.le_of_ble_eq_true rfl)
    refine J_icmp_ne (tgt := 17) hC dX2_holds_10 (by decide) (fun c4 => ?_) (fun c4 => ?_)
    · refine J_iconst (v := 0) hC dX2_holds_17 (by decide) ?_
      refine J_sub [0, 1] rfl ?_
      exact hj _ (if_neg c4).symm
    · refine J_iconst (v := 1) hC dX2_holds_13 (by decide) ?_
      refine J_goto (tgt := 18) hC dX2_holds_14 (by decide) ?_
      refine J_sub [0, 1] rfl ?_
      exact hj _ (if_pos c4).symm
abbrev rm_X0_fits : Room := { frames := 2, cells := 0, slots := 0, locals := 41 }

set_option maxHeartbeats 4000000 in
set_option maxRecDepth 100000 in
theorem cX0_fits_ok (M : Mem) (a0 : Option Nat) (a1 : Int32) (r0 : Int32) (h : fX0_fits M a0 a1 = some r0) : ∀ l : Launch, l.stackTraces = false → Con false l yX0_fits cX0_fits 4 (some .boolean) rm_X0_fits [rf a0, .int a1] M (M, Sum.inr (some (Value.int r0))) := by
  intro l hst
  refine Con.enter hst (own := RX0) (by decide +kernel) rfl (by exact Nat.le_of_ble_eq_true rfl) (lv0 := [(0, rf a0), (1, .int a1)]) (rfl) (fun C hC hin => ?_)
  unfold fX0_fits at h
  refine J_iload_n (j := 1) hC dX0_fits_0 rfl ?_
  refine J_if_ne (tgt := 8) hC dX0_fits_1 (by decide) (fun c1 => ?_) (fun c1 => ?_)
  · have h := ite_f c1 h
    refine J_aload_n (j := 0) hC dX0_fits_8 rfl ?_
    refine J_g0_1 hC k_X0_15 dX0_fits_9 h (fun v10 _ h => ?_)
    refine J_iload_n (j := 1) hC dX0_fits_12 rfl ?_
    refine J_iconst (v := 1) hC dX0_fits_13 (by decide) ?_
    refine J_isub hC dX0_fits_14 ?_
    refine J_iald hC dX0_fits_15 h (fun v11 _ h => ?_)
    refine J_istore_n (i := 2) (lv' := [(2, .int v11), (0, rf a0), (1, .int a1)]) rfl hC dX0_fits_16 (by decide) rfl ?_
    refine J_iload_n (j := 0) hC dX0_fits_17 rfl ?_
    refine bnd_c h (fun w12 hw h => ?_)
    refine J_callSN (As := [.int v11]) (M' := M) (rv := some (Value.int w12)) (st := []) hC (fun l hl => cX2_markOf_ok M v11 _ hw l hl) sm_X2_markOf (fun U h => h.2.1) rfl ⟨Nat.le_of_ble_eq_true rfl, Nat.le_of_ble_eq_true rfl⟩ (Nat.zero_le _) ⟨Nat.le_of_ble_eq_true rfl, Nat.le_of_ble_eq_true rfl⟩ dX0_fits_18 rfl ?_
    refine J_aload_n (j := 1) hC dX0_fits_21 rfl ?_
    refine J_g0_3 hC k_X0_21 dX0_fits_22 h (fun v13 _ h => ?_)
    refine J_ineg hC dX0_fits_25 ?_
    refine J_aload_n (j := 1) hC dX0_fits_26 rfl ?_
    refine J_g0_1 hC k_X0_15 dX0_fits_27 h (fun v14 _ h => ?_)
    refine J_iload_n (j := 2) hC dX0_fits_30 rfl ?_
    refine J_iald hC dX0_fits_31 h (fun v15 _ h => ?_)
    refine J_imul hC dX0_fits_32 ?_
    refine bnd_c h (fun w16 hw h => ?_)
    refine J_callSN (As := [.int ((-v13) * v15)]) (M' := M) (rv := some (Value.int w16)) (st := [.int w12]) hC (fun l hl => cX2_markOf_ok M ((-v13) * v15) _ hw l hl) sm_X2_markOf (fun U h => h.2.1) rfl ⟨Nat.le_of_ble_eq_true rfl, Nat.le_of_ble_eq_true rfl⟩ (Nat.le_of_ble_eq_true rfl) ⟨Nat.le_of_ble_eq_true rfl, Nat.le_of_ble_eq_true rfl⟩ dX0_fits_33 rfl ?_
    refine J_ior hC dX0_fits_36 ?_
    refine J_istore_n (i := 3) (lv' := [(3, .int (w12 ||| w16)), (2, .int v11), (0, rf a0), (1, .int a1)]) rfl hC dX0_fits_37 (by decide) rfl ?_
    refine J_iload_n (j := 0) hC dX0_fits_38 rfl ?_
    refine J_aload_n (j := 2) hC dX0_fits_39 rfl ?_
    refine J_g0_0 hC k_X0_9 dX0_fits_40 h (fun v17 _ h => ?_)
    refine J_iload_n (j := 3) hC dX0_fits_43 rfl ?_
    refine J_iald hC dX0_fits_44 h (fun v18 _ h => ?_)
    refine bnd_c h (fun w19 hw h => ?_)
    refine J_callSN (As := [.int (w12 ||| w16), .int v18]) (M' := M) (rv := some (Value.int w19)) (st := []) hC (fun l hl => cX2_holds_ok M (w12 ||| w16) v18 _ hw l hl) sm_X2_holds (fun U h => h.2.2.1) rfl ⟨Nat.le_of_ble_eq_true rfl, Nat.le_of_ble_eq_true rfl⟩ (Nat.zero_le _) ⟨Nat.le_of_ble_eq_true rfl, Nat.le_of_ble_eq_true rfl⟩ dX0_fits_45 rfl ?_
    refine chk_c h (fun hz h => ?_)
    exact J_zret hC dX0_fits_48 (zb_nar hz) (by have h9 := Option.some.inj h; subst h9; rfl) (Nat.le_of_ble_eq_true rfl) (Nat.le_of_ble_eq_true rfl)
  · have h := ite_t c1 h
    refine J_iconst (v := 0) hC dX0_fits_4 (by decide) ?_
    refine J_goto (tgt := 16) hC dX0_fits_5 (by decide) ?_
    refine J_istore_n (i := 2) (lv' := [(2, .int 0), (0, rf a0), (1, .int a1)]) rfl hC dX0_fits_16 (by decide) rfl ?_
    refine J_iload_n (j := 0) hC dX0_fits_17 rfl ?_
    refine bnd_c h (fun w2 hw h => ?_)
    refine J_callSN (As := [.int 0]) (M' := M) (rv := some (Value.int w2)) (st := []) hC (fun l hl => cX2_markOf_ok M 0 _ hw l hl) sm_X2_markOf (fun U h => h.2.1) rfl ⟨Nat.le_of_ble_eq_true rfl, Nat.le_of_ble_eq_true rfl⟩ (Nat.zero_le _) ⟨Nat.le_of_ble_eq_true rfl, Nat.le_of_ble_eq_true rfl⟩ dX0_fits_18 rfl ?_
    refine J_aload_n (j := 1) hC dX0_fits_21 rfl ?_
    refine J_g0_3 hC k_X0_21 dX0_fits_22 h (fun v3 _ h => ?_)
    refine J_ineg hC dX0_fits_25 ?_
    refine J_aload_n (j := 1) hC dX0_fits_26 rfl ?_
    refine J_g0_1 hC k_X0_15 dX0_fits_27 h (fun v4 _ h => ?_)
    refine J_iload_n (j := 2) hC dX0_fits_30 rfl ?_
    refine J_iald hC dX0_fits_31 h (fun v5 _ h => ?_)
    refine J_imul hC dX0_fits_32 ?_
    refine bnd_c h (fun w6 hw h => ?_)
    refine J_callSN (As := [.int ((-v3) * v5)]) (M' := M) (rv := some (Value.int w6)) (st := [.int w2]) hC (fun l hl => cX2_markOf_ok M ((-v3) * v5) _ hw l hl) sm_X2_markOf (fun U h => h.2.1) rfl ⟨Nat.le_of_ble_eq_true rfl, Nat.le_of_ble_eq_true rfl⟩ (Nat.le_of_ble_eq_true rfl) ⟨Nat.le_of_ble_eq_true rfl, Nat.le_of_ble_eq_true rfl⟩ dX0_fits_33 rfl ?_
    refine J_ior hC dX0_fits_36 ?_
    refine J_istore_n (i := 3) (lv' := [(3, .int (w2 ||| w6)), (2, .int 0), (0, rf a0), (1, .int a1)]) rfl hC dX0_fits_37 (by decide) rfl ?_
    refine J_iload_n (j := 0) hC dX0_fits_38 rfl ?_
    refine J_aload_n (j := 2) hC dX0_fits_39 rfl ?_
    refine J_g0_0 hC k_X0_9 dX0_fits_40 h (fun v7 _ h => ?_)
    refine J_iload_n (j := 3) hC dX0_fits_43 rfl ?_
    refine J_iald hC dX0_fits_44 h (fun v8 _ h => ?_)
    refine bnd_c h (fun w9 hw h => ?_)
    refine J_callSN (As := [.int (w2 ||| w6), .int v8]) (M' := M) (rv := some (Value.int w9)) (st := []) hC (fun l hl => cX2_holds_ok M (w2 ||| w6) v8 _ hw l hl) sm_X2_holds (fun U h => h.2.2.1) rfl ⟨Nat.le_of_ble_eq_true rfl, Nat.le_of_ble_eq_true rfl⟩ (Nat.zero_le _) ⟨Nat.le_of_ble_eq_true rfl, Nat.le_of_ble_eq_true rfl⟩ dX0_fits_45 rfl ?_
    refine chk_c h (fun hz h => ?_)
    exact J_zret hC dX0_fits_48 (zb_nar hz) (by have h9 := Option.some.inj h; subst h9; rfl) (Nat.le_of_ble_eq_true rfl) (Nat.le_of_ble_eq_true rfl)
abbrev rm_X0_advance : Room := { frames := 3, cells := 0, slots := 0, locals := 64 }

set_option maxHeartbeats 4000000 in
set_option maxRecDepth 100000 in
theorem tX0_advance_2 {C : JC} {r0 : Mem × Int32} (x0 : Option Nat) (hC : Ok C false cX0_advance 3 rm_X0_advance (some .boolean) RX0 (r0.1, Sum.inr (some (Value.int r0.2))))  (k131 : Mem → Int32 → Option (Mem × Int32)) (k139 : Mem → Int32 → Option (Mem × Int32)) (hk131 : ∀ (M : Mem) (x1 : Int32), k131 M x1 = some r0 → J C 0 0 M 131 [(0, rf x0), (1, .int x1)] []) (hk139 : ∀ (M : Mem) (x1 : Int32), k139 M x1 = some r0 → J C 0 0 M 139 [(0, rf x0), (1, .int x1)] []) : ∀ (n : Nat) (M : Mem) (x1 : Int32), fX0_advance_2 x0 k131 k139 n M x1 = some r0 → J C 0 0 M 2 [(0, rf x0), (1, .int x1)] [] := by
  intro n
  induction n with
  | zero => intro M x1 h; have h : none = some r0 := h; cases h
  | succ n ih =>
    intro M x1 h
    rw [fX0_advance_2] at h
    refine J_iload_n (j := 1) hC dX0_advance_2 rfl ?_
    refine J_ldc (v := 1000000) hC k_X0_35 dX0_advance_3 ?_
    refine J_icmp_ge (tgt := 139) hC dX0_advance_5 (by decide) (fun c1 => ?_) (fun c1 => ?_)
    · have h := ite_t c1 h
      refine J_sub [0, 1] rfl ?_
      exact hk139 M x1 h
    · have h := ite_f c1 h
      refine J_aload_n (j := 0) hC dX0_advance_8 rfl ?_
      refine J_g0_5 hC k_X0_28 dX0_advance_9 h (fun v2 _ h => ?_)
      refine J_if_lt (tgt := 139) hC dX0_advance_12 (by decide) (fun c3 => ?_) (fun c3 => ?_)
      · have h := ite_t c3 h
        refine J_sub [0, 1] rfl ?_
        exact hk139 M x1 h
      · have h := ite_f c3 h
        refine J_aload_n (j := 0) hC dX0_advance_15 rfl ?_
        refine J_g0_1 hC k_X0_15 dX0_advance_16 h (fun v4 _ h => ?_)
        refine J_aload_n (j := 0) hC dX0_advance_19 rfl ?_
        refine J_g0_5 hC k_X0_28 dX0_advance_20 h (fun v5 _ h => ?_)
        refine J_iald hC dX0_advance_23 h (fun v6 _ h => ?_)
        refine J_iconst (v := 1) hC dX0_advance_24 (by decide) ?_
        refine J_icmp_lt (tgt := 41) hC dX0_advance_25 (by decide) (fun c7 => ?_) (fun c7 => ?_)
        · have h := ite_t c7 h
          refine J_aload_n (j := 0) hC dX0_advance_41 rfl ?_
          refine J_g0_1 hC k_X0_15 dX0_advance_42 h (fun v8 _ h => ?_)
          refine J_aload_n (j := 0) hC dX0_advance_45 rfl ?_
          refine J_g0_5 hC k_X0_28 dX0_advance_46 h (fun v9 _ h => ?_)
          refine J_dup2 hC dX0_advance_49 rfl rfl ?_
          refine J_iald hC dX0_advance_50 h (fun v10 _ h => ?_)
          refine J_iconst (v := 1) hC dX0_advance_51 (by decide) ?_
          refine J_iadd hC dX0_advance_52 ?_
          refine J_iast hC dX0_advance_53 h (fun M11 _ h => ?_)
          refine J_aload_n (j := 0) hC dX0_advance_54 rfl ?_
          refine J_aload_n (j := 0) hC dX0_advance_55 rfl ?_
          refine J_g0_5 hC k_X0_28 dX0_advance_56 h (fun v12 _ h => ?_)
          refine ck_c h (fun ho h => ?_)
          refine bnd_c h (fun w13 hw h => ?_)
          refine J_callV (As := [.int v12]) (M' := M11) (rv := some (Value.int w13)) (st := []) hC (fun l hl => cX0_fits_ok M11 x0 v12 _ hw l hl) vm_X0_fits k_X0_36 ho ⟨rfl, rfl⟩ rfl ⟨Nat.le_of_ble_eq_true rfl, Nat.le_of_ble_eq_true rfl⟩ (Nat.zero_le _) ⟨Nat.le_of_ble_eq_true rfl, Nat.le_of_ble_eq_true rfl⟩ dX0_advance_59 rfl ?_
          refine J_istore_n (i := 2) (lv' := [(2, .int w13), (0, rf x0), (1, .int x1)]) rfl hC dX0_advance_62 (by decide) rfl ?_
          refine J_iload_n (j := 0) hC dX0_advance_63 rfl ?_
          refine J_if_eq (tgt := 102) hC dX0_advance_64 (by decide) (fun c14 => ?_) (fun c14 => ?_)
          · have h := ite_t c14 h
            refine J_iload_n (j := 0) hC dX0_advance_102 rfl ?_
            refine J_if_eq (tgt := 133) hC dX0_advance_103 (by decide) (fun _ => ?_) (fun c => absurd c14 c)
            refine J_inc (j := 2) (k := 1) (lv' := [(1, .int (x1 + 1)), (2, .int w13), (0, rf x0)]) hC dX0_advance_133 (by decide) rfl (by decide) rfl ?_
            refine J_goto (tgt := 2) hC dX0_advance_136 (by decide) ?_
            refine J_sub [2, 0] rfl ?_
            exact ih M11 (x1 + 1) h
          · have h := ite_f c14 h
            refine J_aload_n (j := 1) hC dX0_advance_67 rfl ?_
            refine J_g0_5 hC k_X0_28 dX0_advance_68 h (fun v15 _ h => ?_)
            refine J_aload_n (j := 1) hC dX0_advance_71 rfl ?_
            refine J_g0_4 hC k_X0_25 dX0_advance_72 h (fun v16 _ h => ?_)
            refine J_icmp_ge (tgt := 102) hC dX0_advance_75 (by decide) (fun c17 => ?_) (fun c17 => ?_)
            · have h := ite_t c17 h
              refine J_iload_n (j := 0) hC dX0_advance_102 rfl ?_
              refine J_if_eq (tgt := 133) hC dX0_advance_103 (by decide) (fun c => absurd c c14) (fun _ => ?_)
              refine J_aload_n (j := 1) hC dX0_advance_106 rfl ?_
              refine J_g0_1 hC k_X0_15 dX0_advance_107 h (fun v18 _ h => ?_)
              refine J_aload_n (j := 1) hC dX0_advance_110 rfl ?_
              refine J_g0_4 hC k_X0_25 dX0_advance_111 h (fun v19 _ h => ?_)
              refine J_iald hC dX0_advance_114 h (fun v20 _ h => ?_)
              refine J_if_eq (tgt := 133) hC dX0_advance_115 (by decide) (fun c21 => ?_) (fun c21 => ?_)
              · have h := ite_t c21 h
                refine J_inc (j := 2) (k := 1) (lv' := [(1, .int (x1 + 1)), (2, .int w13), (0, rf x0)]) hC dX0_advance_133 (by decide) rfl (by decide) rfl ?_
                refine J_goto (tgt := 2) hC dX0_advance_136 (by decide) ?_
                refine J_sub [2, 0] rfl ?_
                exact ih M11 (x1 + 1) h
              · have h := ite_f c21 h
                refine J_aload_n (j := 1) hC dX0_advance_118 rfl ?_
                refine J_aload_n (j := 1) hC dX0_advance_119 rfl ?_
                refine J_g0_4 hC k_X0_25 dX0_advance_120 h (fun v22 _ h => ?_)
                refine J_iconst (v := 1) hC dX0_advance_123 (by decide) ?_
                refine J_iadd hC dX0_advance_124 ?_
                refine ck_c h (fun ho h => ?_)
                refine bnd_c h (fun w23 hw h => ?_)
                refine J_callV (As := [.int (v22 + 1)]) (M' := M11) (rv := some (Value.int w23)) (st := []) hC (fun l hl => cX0_fits_ok M11 x0 (v22 + 1) _ hw l hl) vm_X0_fits k_X0_36 ho ⟨rfl, rfl⟩ rfl ⟨Nat.le_of_ble_eq_true rfl, Nat.le_of_ble_eq_true rfl⟩ (Nat.zero_le _) ⟨Nat.le_of_ble_eq_true rfl, Nat.le_of_ble_eq_true rfl⟩ dX0_advance_125 rfl ?_
                refine J_if_eq (tgt := 133) hC dX0_advance_128 (by decide) (fun c24 => ?_) (fun c24 => ?_)
                · have h := ite_t c24 h
                  refine J_inc (j := 2) (k := 1) (lv' := [(1, .int (x1 + 1)), (2, .int w13), (0, rf x0)]) hC dX0_advance_133 (by decide) rfl (by decide) rfl ?_
                  refine J_goto (tgt := 2) hC dX0_advance_136 (by decide) ?_
                  refine J_sub [2, 0] rfl ?_
                  exact ih M11 (x1 + 1) h
                · have h := ite_f c24 h
                  refine J_sub [1, 2] rfl ?_
                  exact hk131 M11 x1 h
            · have h := ite_f c17 h
              refine J_aload_n (j := 1) hC dX0_advance_78 rfl ?_
              refine J_dup hC dX0_advance_79 rfl ?_
              refine J_g0_5 hC k_X0_28 dX0_advance_80 h (fun v25 _ h => ?_)
              refine J_iconst (v := 1) hC dX0_advance_83 (by decide) ?_
              refine J_iadd hC dX0_advance_84 ?_
              refine J_p0_5 hC k_X0_28 dX0_advance_85 h (fun M26 _ h => ?_)
              refine J_aload_n (j := 1) hC dX0_advance_88 rfl ?_
              refine J_g0_1 hC k_X0_15 dX0_advance_89 h (fun v27 _ h => ?_)
              refine J_aload_n (j := 1) hC dX0_advance_92 rfl ?_
              refine J_g0_5 hC k_X0_28 dX0_advance_93 h (fun v28 _ h => ?_)
              refine J_bipush (v := (-2)) hC dX0_advance_96 (by decide) ?_
              refine J_iast hC dX0_advance_98 h (fun M29 _ h => ?_)
              refine J_goto (tgt := 133) hC dX0_advance_99 (by decide) ?_
              refine J_inc (j := 2) (k := 1) (lv' := [(1, .int (x1 + 1)), (2, .int w13), (0, rf x0)]) hC dX0_advance_133 (by decide) rfl (by decide) rfl ?_
              refine J_goto (tgt := 2) hC dX0_advance_136 (by decide) ?_
              refine J_sub [2, 0] rfl ?_
              exact ih M29 (x1 + 1) h
        · have h := ite_f c7 h
          refine J_aload_n (j := 0) hC dX0_advance_28 rfl ?_
          refine J_dup hC dX0_advance_29 rfl ?_
          refine J_g0_5 hC k_X0_28 dX0_advance_30 h (fun v30 _ h => ?_)
          refine J_iconst (v := 1) hC dX0_advance_33 (by decide) ?_
          refine J_isub hC dX0_advance_34 ?_
          refine J_p0_5 hC k_X0_28 dX0_advance_35 h (fun M31 _ h => ?_)
          refine J_goto (tgt := 133) hC dX0_advance_38 (by decide) ?_
          refine J_inc (j := 1) (k := 1) (lv' := [(1, .int (x1 + 1)), (0, rf x0)]) hC dX0_advance_133 (by decide) rfl (by decide) rfl ?_
          refine J_goto (tgt := 2) hC dX0_advance_136 (by decide) ?_
          refine J_sub [1, 0] rfl ?_
          exact ih M31 (x1 + 1) h
set_option maxHeartbeats 4000000 in
set_option maxRecDepth 100000 in
theorem cX0_advance_ok (M : Mem) (a0 : Option Nat) (r0 : Mem × Int32) (h : fX0_advance M a0 = some r0) : ∀ l : Launch, l.stackTraces = false → Con false l yX0_advance cX0_advance 3 (some .boolean) rm_X0_advance [rf a0] M (r0.1, Sum.inr (some (Value.int r0.2))) := by
  intro l hst
  refine Con.enter hst (own := RX0) (by decide +kernel) rfl (by exact Nat.le_of_ble_eq_true rfl) (lv0 := [(0, rf a0)]) (rfl) (fun C hC hin => ?_)
  unfold fX0_advance at h
  refine J_iconst (v := 0) hC dX0_advance_0 (by decide) ?_
  refine J_istore_n (i := 1) (lv' := [(1, .int 0), (0, rf a0)]) rfl hC dX0_advance_1 (by decide) rfl ?_
  refine J_sub [1, 0] rfl ?_
  refine tX0_advance_2 a0 hC _ _ (fun M32 x33 h => ?_) (fun M34 x35 h => ?_) FU M 0 h
  · refine J_iconst (v := 1) hC dX0_advance_131 (by decide) ?_
    exact J_zret hC dX0_advance_132 (by decide) (by have h9 := Option.some.inj h; subst h9; rfl) (Nat.le_of_ble_eq_true rfl) (Nat.le_of_ble_eq_true rfl)
  · refine J_iconst (v := 0) hC dX0_advance_139 (by decide) ?_
    exact J_zret hC dX0_advance_140 (by decide) (by have h9 := Option.some.inj h; subst h9; rfl) (Nat.le_of_ble_eq_true rfl) (Nat.le_of_ble_eq_true rfl)
abbrev rm_X2_formOf : Room := { frames := 0, cells := 0, slots := 0, locals := 0 }

set_option maxHeartbeats 4000000 in
set_option maxRecDepth 100000 in
theorem tX2_formOf_5 {C : JC} {r0 : Int32} (M : Mem) (x0 : Option Nat) (hC : Ok C false cX2_formOf 3 rm_X2_formOf (some .int) RX2 (M, Sum.inr (some (Value.int r0))))  (k25 : Int32 → Int32 → Option (Int32)) (hk25 : ∀ (x1 : Int32) (x2 : Int32), k25 x1 x2 = some r0 → J C 0 0 M 25 [(0, rf x0), (1, .int x1), (2, .int x2)] []) : ∀ (n : Nat) (x1 : Int32) (x2 : Int32), fX2_formOf_5 M x0 k25 n x1 x2 = some r0 → J C 0 0 M 5 [(0, rf x0), (1, .int x1), (2, .int x2)] [] := by
  intro n
  induction n with
  | zero => intro x1 x2 h; have h : none = some r0 := h; cases h
  | succ n ih =>
    intro x1 x2 h
    rw [fX2_formOf_5] at h
    refine J_iload_n (j := 2) hC dX2_formOf_5 rfl ?_
    refine J_if_lt (tgt := 25) hC dX2_formOf_6 (by decide) (fun c1 => ?_) (fun c1 => ?_)
    · have h := ite_t c1 h
      refine J_sub [0, 1, 2] rfl ?_
      exact hk25 x1 x2 h
    · have h := ite_f c1 h
      refine J_iconst (v := 3) hC dX2_formOf_9 (by decide) ?_
      refine J_iload_n (j := 1) hC dX2_formOf_10 rfl ?_
      refine J_imul hC dX2_formOf_11 ?_
      refine J_aload_n (j := 0) hC dX2_formOf_12 rfl ?_
      refine J_iload_n (j := 2) hC dX2_formOf_13 rfl ?_
      refine J_iald hC dX2_formOf_14 h (fun v2 _ h => ?_)
      refine J_iadd hC dX2_formOf_15 ?_
      refine J_iconst (v := 1) hC dX2_formOf_16 (by decide) ?_
      refine J_iadd hC dX2_formOf_17 ?_
      refine J_istore_n (i := 1) (lv' := [(1, .int (((3 * x1) + v2) + 1)), (0, rf x0), (2, .int x2)]) rfl hC dX2_formOf_18 (by decide) rfl ?_
      refine J_inc (j := 2) (k := (-1)) (lv' := [(2, .int (x2 + (-1))), (1, .int (((3 * x1) + v2) + 1)), (0, rf x0)]) hC dX2_formOf_19 (by decide) rfl (by decide) rfl ?_
      refine J_goto (tgt := 5) hC dX2_formOf_22 (by decide) ?_
      refine J_sub [2, 1, 0] rfl ?_
      exact ih (((3 * x1) + v2) + 1) (x2 + (-1)) h
set_option maxHeartbeats 4000000 in
set_option maxRecDepth 100000 in
theorem cX2_formOf_ok (M : Mem) (a0 : Option Nat) (r0 : Int32) (h : fX2_formOf M a0 = some r0) : ∀ l : Launch, l.stackTraces = false → Con false l yX2_formOf cX2_formOf 3 (some .int) rm_X2_formOf [rf a0] M (M, Sum.inr (some (Value.int r0))) := by
  intro l hst
  refine Con.enter hst (own := RX2) (by decide +kernel) rfl (by exact Nat.le_of_ble_eq_true rfl) (lv0 := [(0, rf a0)]) (rfl) (fun C hC hin => ?_)
  unfold fX2_formOf at h
  refine J_iconst (v := 0) hC dX2_formOf_0 (by decide) ?_
  refine J_istore_n (i := 1) (lv' := [(1, .int 0), (0, rf a0)]) rfl hC dX2_formOf_1 (by decide) rfl ?_
  refine J_bipush (v := 8) hC dX2_formOf_2 (by decide) ?_
  refine J_istore_n (i := 2) (lv' := [(2, .int 8), (1, .int 0), (0, rf a0)]) rfl hC dX2_formOf_4 (by decide) rfl ?_
  refine J_sub [2, 1, 0] rfl ?_
  refine tX2_formOf_5 M a0 hC _ (fun x3 x4 h => ?_) FU 0 8 h
  · refine J_iload_n (j := 1) hC dX2_formOf_25 rfl ?_
    exact J_iret hC dX2_formOf_26 (by have h9 := Option.some.inj h; subst h9; rfl) (Nat.le_of_ble_eq_true rfl) (Nat.le_of_ble_eq_true rfl)
abbrev rm_XT_placeOf : Room := { frames := 0, cells := 0, slots := 0, locals := 0 }

set_option maxHeartbeats 4000000 in
set_option maxRecDepth 100000 in
theorem cXT_placeOf_ok (M : Mem) (a0 : Int32) (a1 : Int32) (r0 : Int32) (h : fXT_placeOf M a0 a1 = some r0) : ∀ l : Launch, l.stackTraces = false → Con false l yXT_placeOf cXT_placeOf 2 (some .int) rm_XT_placeOf [.int a0, .int a1] M (M, Sum.inr (some (Value.int r0))) := by
  intro l hst
  refine Con.enter hst (own := RXT) (by decide +kernel) rfl (by exact Nat.le_of_ble_eq_true rfl) (lv0 := [(0, .int a0), (1, .int a1)]) (rfl) (fun C hC hin => ?_)
  unfold fXT_placeOf at h
  refine J_iload_n (j := 0) hC dXT_placeOf_0 rfl ?_
  refine J_sipush (v := 6561) hC dXT_placeOf_1 (by decide) ?_
  refine J_isub hC dXT_placeOf_4 ?_
  refine J_iconst (v := 3) hC dXT_placeOf_5 (by decide) ?_
  refine J_imul hC dXT_placeOf_6 ?_
  refine J_iload_n (j := 1) hC dXT_placeOf_7 rfl ?_
  refine J_iadd hC dXT_placeOf_8 ?_
  refine J_iconst (v := 1) hC dXT_placeOf_9 (by decide) ?_
  refine J_iadd hC dXT_placeOf_10 ?_
  exact J_iret hC dXT_placeOf_11 (by have h9 := Option.some.inj h; subst h9; rfl) (Nat.le_of_ble_eq_true rfl) (Nat.le_of_ble_eq_true rfl)
abbrev rm_XT_timesOf : Room := { frames := 1, cells := 0, slots := 0, locals := 21 }

set_option maxHeartbeats 4000000 in
set_option maxRecDepth 100000 in
theorem cXT_timesOf_ok (M : Mem) (a0 : Option Nat) (a1 : Int32) (a2 : Int32) (r0 : Int32) (h : fXT_timesOf M a0 a1 a2 = some r0) : ∀ l : Launch, l.stackTraces = false → Con false l yXT_timesOf cXT_timesOf 6 (some .int) rm_XT_timesOf [rf a0, .int a1, .int a2] M (M, Sum.inr (some (Value.int r0))) := by
  intro l hst
  refine Con.enter hst (own := RXT) (by decide +kernel) rfl (by exact Nat.le_of_ble_eq_true rfl) (lv0 := [(0, rf a0), (1, .int a1), (2, .int a2)]) (rfl) (fun C hC hin => ?_)
  unfold fXT_timesOf at h
  refine J_iload_n (j := 1) hC dXT_timesOf_0 rfl ?_
  refine J_iload_n (j := 2) hC dXT_timesOf_1 rfl ?_
  refine bnd_c h (fun w1 hw h => ?_)
  refine J_callS (As := [.int a1, .int a2]) (M' := M) (rv := some (Value.int w1)) (st := []) hC (fun l hl => cXT_placeOf_ok M a1 a2 _ hw l hl) sm_XT_placeOf k_XT_15 rfl ⟨Nat.le_of_ble_eq_true rfl, Nat.le_of_ble_eq_true rfl⟩ (Nat.zero_le _) ⟨Nat.le_of_ble_eq_true rfl, Nat.le_of_ble_eq_true rfl⟩ dXT_timesOf_2 rfl ?_
  refine J_istore_n (i := 3) (lv' := [(3, .int w1), (0, rf a0), (1, .int a1), (2, .int a2)]) rfl hC dXT_timesOf_5 (by decide) rfl ?_
  refine J_iload_n (j := 0) hC dXT_timesOf_6 rfl ?_
  refine J_if_lt (tgt := 17) hC dXT_timesOf_7 (by decide) (fun c2 => ?_) (fun c2 => ?_)
  · have h := ite_t c2 h
    refine J_iconst (v := (-1)) hC dXT_timesOf_17 (by decide) ?_
    exact J_iret hC dXT_timesOf_18 (by have h9 := Option.some.inj h; subst h9; rfl) (Nat.le_of_ble_eq_true rfl) (Nat.le_of_ble_eq_true rfl)
  · have h := ite_f c2 h
    refine J_iload_n (j := 0) hC dXT_timesOf_10 rfl ?_
    refine J_sipush (v := 19683) hC dXT_timesOf_11 (by decide) ?_
    refine J_icmp_lt (tgt := 19) hC dXT_timesOf_14 (by decide) (fun c3 => ?_) (fun c3 => ?_)
    · have h := ite_t c3 h
      refine J_aload_n (j := 1) hC dXT_timesOf_19 rfl ?_
      refine J_g11_0 hC k_XT_11 dXT_timesOf_20 h (fun v4 _ h => ?_)
      refine J_iload_n (j := 0) hC dXT_timesOf_23 rfl ?_
      refine J_bipush (v := 16) hC dXT_timesOf_24 (by decide) ?_
      refine J_idiv hC dXT_timesOf_26 (by decide) ?_
      refine J_lald hC dXT_timesOf_27 h (fun v5 _ h => ?_)
      refine J_iload_n (j := 0) hC dXT_timesOf_28 rfl ?_
      refine J_bipush (v := 16) hC dXT_timesOf_29 (by decide) ?_
      refine J_irem hC dXT_timesOf_31 (by decide) ?_
      refine J_iconst (v := 4) hC dXT_timesOf_32 (by decide) ?_
      refine J_imul hC dXT_timesOf_33 ?_
      refine J_lushr hC dXT_timesOf_34 ?_
      refine J_lstore (lv' := [(4, .long ((v5.toUInt64 >>> (((w1 - w1 / 16 * 16) * 4).toInt64.toUInt64 &&& Int64.toUInt64 63)).toInt64)), (3, .int w1), (0, rf a0), (1, .int a1), (2, .int a2)]) hC dXT_timesOf_35 (by decide) rfl ?_
      refine J_lload (j := 0) hC dXT_timesOf_37 rfl ?_
      refine J_ldc2 (v := 15) hC k_XT_19 dXT_timesOf_39 ?_
      refine J_land hC dXT_timesOf_42 ?_
      refine J_l2i hC dXT_timesOf_43 ?_
      refine J_iconst (v := 1) hC dXT_timesOf_44 (by decide) ?_
      refine J_isub hC dXT_timesOf_45 ?_
      exact J_iret hC dXT_timesOf_46 (by have h9 := Option.some.inj h; subst h9; rfl) (Nat.le_of_ble_eq_true rfl) (Nat.le_of_ble_eq_true rfl)
    · have h := ite_f c3 h
      refine J_iconst (v := (-1)) hC dXT_timesOf_17 (by decide) ?_
      exact J_iret hC dXT_timesOf_18 (by have h9 := Option.some.inj h; subst h9; rfl) (Nat.le_of_ble_eq_true rfl) (Nat.le_of_ble_eq_true rfl)
abbrev rm_XT_remember : Room := { frames := 1, cells := 0, slots := 0, locals := 21 }

set_option maxHeartbeats 4000000 in
set_option maxRecDepth 100000 in
theorem cXT_remember_ok (M : Mem) (a0 : Option Nat) (a1 : Int32) (a2 : Int32) (a3 : Int32) (r0 : Mem) (h : fXT_remember M a0 a1 a2 a3 = some r0) : ∀ l : Launch, l.stackTraces = false → Con false l yXT_remember cXT_remember 5 none rm_XT_remember [rf a0, .int a1, .int a2, .int a3] M (r0, Sum.inr none) := by
  intro l hst
  refine Con.enter hst (own := RXT) (by decide +kernel) rfl (by exact Nat.le_of_ble_eq_true rfl) (lv0 := [(0, rf a0), (1, .int a1), (2, .int a2), (3, .int a3)]) (rfl) (fun C hC hin => ?_)
  unfold fXT_remember at h
  refine J_iload_n (j := 1) hC dXT_remember_0 rfl ?_
  refine J_iload_n (j := 2) hC dXT_remember_1 rfl ?_
  refine bnd_c h (fun w1 hw h => ?_)
  refine J_callS (As := [.int a1, .int a2]) (M' := M) (rv := some (Value.int w1)) (st := []) hC (fun l hl => cXT_placeOf_ok M a1 a2 _ hw l hl) sm_XT_placeOf k_XT_15 rfl ⟨Nat.le_of_ble_eq_true rfl, Nat.le_of_ble_eq_true rfl⟩ (Nat.zero_le _) ⟨Nat.le_of_ble_eq_true rfl, Nat.le_of_ble_eq_true rfl⟩ dXT_remember_2 rfl ?_
  refine J_istore (lv' := [(4, .int w1), (0, rf a0), (1, .int a1), (2, .int a2), (3, .int a3)]) hC dXT_remember_5 (by decide) rfl ?_
  refine J_iload (j := 0) hC dXT_remember_7 rfl ?_
  refine J_if_lt (tgt := 45) hC dXT_remember_9 (by decide) (fun c2 => ?_) (fun c2 => ?_)
  · have h := ite_t c2 h
    exact J_vret hC dXT_remember_45 (by have h9 := Option.some.inj h; subst h9; rfl) (Nat.le_of_ble_eq_true rfl) (Nat.le_of_ble_eq_true rfl)
  · have h := ite_f c2 h
    refine J_iload (j := 0) hC dXT_remember_12 rfl ?_
    refine J_sipush (v := 19683) hC dXT_remember_14 (by decide) ?_
    refine J_icmp_ge (tgt := 45) hC dXT_remember_17 (by decide) (fun c3 => ?_) (fun c3 => ?_)
    · have h := ite_t c3 h
      exact J_vret hC dXT_remember_45 (by have h9 := Option.some.inj h; subst h9; rfl) (Nat.le_of_ble_eq_true rfl) (Nat.le_of_ble_eq_true rfl)
    · have h := ite_f c3 h
      refine J_aload_n (j := 1) hC dXT_remember_20 rfl ?_
      refine J_g11_0 hC k_XT_11 dXT_remember_21 h (fun v4 _ h => ?_)
      refine J_iload (j := 0) hC dXT_remember_24 rfl ?_
      refine J_bipush (v := 16) hC dXT_remember_26 (by decide) ?_
      refine J_idiv hC dXT_remember_28 (by decide) ?_
      refine J_dup2 hC dXT_remember_29 rfl rfl ?_
      refine J_lald hC dXT_remember_30 h (fun v5 _ h => ?_)
      refine J_iload_n (j := 4) hC dXT_remember_31 rfl ?_
      refine J_i2l hC dXT_remember_32 ?_
      refine J_lconst (v := 1) hC dXT_remember_33 (by decide) ?_
      refine J_ladd hC dXT_remember_34 ?_
      refine J_iload (j := 0) hC dXT_remember_35 rfl ?_
      refine J_bipush (v := 16) hC dXT_remember_37 (by decide) ?_
      refine J_irem hC dXT_remember_39 (by decide) ?_
      refine J_iconst (v := 4) hC dXT_remember_40 (by decide) ?_
      refine J_imul hC dXT_remember_41 ?_
      refine J_lshl hC dXT_remember_42 ?_
      refine J_lor hC dXT_remember_43 ?_
      refine J_last hC dXT_remember_44 h (fun M6 _ h => ?_)
      exact J_vret hC dXT_remember_45 (by have h9 := Option.some.inj h; subst h9; rfl) (Nat.le_of_ble_eq_true rfl) (Nat.le_of_ble_eq_true rfl)
abbrev rm_X0_rememberBest : Room := { frames := 1, cells := 0, slots := 0, locals := 26 }

set_option maxHeartbeats 4000000 in
set_option maxRecDepth 100000 in
theorem cX0_rememberBest_ok (M : Mem) (a0 : Option Nat) (r0 : Mem) (h : fX0_rememberBest M a0 = some r0) : ∀ l : Launch, l.stackTraces = false → Con false l yX0_rememberBest cX0_rememberBest 1 none rm_X0_rememberBest [rf a0] M (r0, Sum.inr none) := by
  intro l hst
  refine Con.enter hst (own := RX0) (by decide +kernel) rfl (by exact Nat.le_of_ble_eq_true rfl) (lv0 := [(0, rf a0)]) (rfl) (fun C hC hin => ?_)
  unfold fX0_rememberBest at h
  refine J_aload_n (j := 0) hC dX0_rememberBest_0 rfl ?_
  refine J_g0_1 hC k_X0_15 dX0_rememberBest_1 h (fun v1 _ h => ?_)
  refine J_iconst (v := 0) hC dX0_rememberBest_4 (by decide) ?_
  refine J_aload_n (j := 0) hC dX0_rememberBest_5 rfl ?_
  refine J_g0_2 hC k_X0_18 dX0_rememberBest_6 h (fun v2 _ h => ?_)
  refine J_iconst (v := 0) hC dX0_rememberBest_9 (by decide) ?_
  refine J_bipush (v := 9) hC dX0_rememberBest_10 (by decide) ?_
  refine J_copyi hC k_X0_40 (Nat.zero_le _) (Nat.le_of_ble_eq_true rfl) (Nat.le_of_ble_eq_true rfl) dX0_rememberBest_12 h (fun M3 _ h => ?_)
  exact J_vret hC dX0_rememberBest_15 (by have h9 := Option.some.inj h; subst h9; rfl) (Nat.le_of_ble_eq_true rfl) (Nat.le_of_ble_eq_true rfl)
abbrev rm_X2_tryQuotients (d : Nat) : Room := { frames := 4 + d, cells := 0, slots := 0, locals := 86 + 29 * d }

set_option maxHeartbeats 4000000 in
set_option maxRecDepth 100000 in
theorem tX2_tryQuotients_28 {d : Nat} {C : JC} {r0 : Mem × Int32} (rec : Mem → Option Nat → Int32 → Option Nat → Option Nat → Int32 → Option (Mem × Int32)) (x0 : Option Nat) (x1 : Int32) (x2 : Option Nat) (x3 : Option Nat) (x4 : Int32) (x6 : Option Nat) (hC : Ok C false cX2_tryQuotients 10 (rm_X2_tryQuotients (d + 1)) (some .int) RX2 (r0.1, Sum.inr (some (Value.int r0.2)))) (hrec : ∀ (M : Mem) (a0 : Option Nat) (a1 : Int32) (a2 : Option Nat) (a3 : Option Nat) (a4 : Int32) (r0 : Mem × Int32), rec M a0 a1 a2 a3 a4 = some r0 → ∀ l : Launch, l.stackTraces = false → Con false l yX2_tryQuotients cX2_tryQuotients 10 (some .int) (rm_X2_tryQuotients d) [rf a0, .int a1, rf a2, rf a3, .int a4] M (r0.1, Sum.inr (some (Value.int r0.2)))) (k121 : Mem → Int32 → Int32 → Option (Mem × Int32)) (hk121 : ∀ (M : Mem) (x5 : Int32) (x7 : Int32), k121 M x5 x7 = some r0 → J C 0 0 M 121 [(0, rf x0), (1, .int x1), (2, rf x2), (3, rf x3), (4, .int x4), (5, .int x5), (6, rf x6), (7, .int x7)] []) : ∀ (n : Nat) (M : Mem) (x5 : Int32) (x7 : Int32), fX2_tryQuotients_28 rec x0 x1 x2 x3 x4 x6 k121 n M x5 x7 = some r0 → J C 0 0 M 28 [(0, rf x0), (1, .int x1), (2, rf x2), (3, rf x3), (4, .int x4), (5, .int x5), (6, rf x6), (7, .int x7)] [] := by
  intro n
  induction n with
  | zero => intro M x5 x7 h; have h : none = some r0 := h; cases h
  | succ n ih =>
    intro M x5 x7 h
    rw [fX2_tryQuotients_28] at h
    refine J_iload (j := 7) hC dX2_tryQuotients_28 rfl ?_
    refine J_ldcw (v := 1000000) hC k_X2_266 dX2_tryQuotients_30 ?_
    refine J_icmp_ge (tgt := 121) hC dX2_tryQuotients_33 (by decide) (fun c5 => ?_) (fun c5 => ?_)
    · have h := ite_t c5 h
      refine J_sub [0, 1, 2, 3, 4, 5, 6, 7] rfl ?_
      exact hk121 M x5 x7 h
    · have h := ite_f c5 h
      refine J_aload (j := 6) hC dX2_tryQuotients_36 rfl ?_
      refine ck_c h (fun ho h => ?_)
      refine bnd_c h (fun w6 hw h => ?_)
      refine J_callV (As := []) (M' := w6.1) (rv := some (Value.int w6.2)) (st := []) hC (fun l hl => cX0_advance_ok M x6 _ hw l hl) vm_X0_advance k_X2_267 ho ⟨rfl, rfl⟩ rfl ⟨show 4 ≤ 4 + (d + 1) by omega, show 86 ≤ 86 + 29 * (d + 1) by omega⟩ (Nat.zero_le _) ⟨Nat.le_of_ble_eq_true rfl, Nat.le_of_ble_eq_true rfl⟩ dX2_tryQuotients_38 rfl ?_
      refine J_if_eq (tgt := 121) hC dX2_tryQuotients_41 (by decide) (fun c7 => ?_) (fun c7 => ?_)
      · have h := ite_t c7 h
        refine J_sub [0, 1, 2, 3, 4, 5, 6, 7] rfl ?_
        exact hk121 w6.1 x5 x7 h
      · have h := ite_f c7 h
        refine J_aload (j := 6) hC dX2_tryQuotients_44 rfl ?_
        refine J_g0_1 hC k_X2_271 dX2_tryQuotients_46 h (fun v8 _ h => ?_)
        refine bnd_c h (fun w9 hw h => ?_)
        refine J_callS (As := [rf v8]) (M' := w6.1) (rv := some (Value.int w9)) (st := []) hC (fun l hl => cX2_formOf_ok w6.1 v8 _ hw l hl) sm_X2_formOf k_X2_162 rfl ⟨show 1 ≤ 4 + (d + 1) by omega, show 22 ≤ 86 + 29 * (d + 1) by omega⟩ (Nat.zero_le _) ⟨Nat.le_of_ble_eq_true rfl, Nat.le_of_ble_eq_true rfl⟩ dX2_tryQuotients_49 rfl ?_
        refine J_istore (lv' := [(8, .int w9), (0, rf x0), (1, .int x1), (2, rf x2), (3, rf x3), (4, .int x4), (5, .int x5), (6, rf x6), (7, .int x7)]) hC dX2_tryQuotients_52 (by decide) rfl ?_
        refine J_aload_n (j := 4) hC dX2_tryQuotients_54 rfl ?_
        refine J_iload (j := 0) hC dX2_tryQuotients_55 rfl ?_
        refine J_iload_n (j := 2) hC dX2_tryQuotients_57 rfl ?_
        refine ck_c h (fun ho h => ?_)
        refine bnd_c h (fun w10 hw h => ?_)
        refine J_callV (As := [.int w9, .int x1]) (M' := w6.1) (rv := some (Value.int w10)) (st := []) hC (fun l hl => cXT_timesOf_ok w6.1 x3 w9 x1 _ hw l hl) vm_XT_timesOf k_X2_274 ho ⟨rfl, rfl⟩ rfl ⟨show 2 ≤ 4 + (d + 1) by omega, show 46 ≤ 86 + 29 * (d + 1) by omega⟩ (Nat.zero_le _) ⟨Nat.le_of_ble_eq_true rfl, Nat.le_of_ble_eq_true rfl⟩ dX2_tryQuotients_58 rfl ?_
        refine J_istore (lv' := [(9, .int w10), (8, .int w9), (0, rf x0), (1, .int x1), (2, rf x2), (3, rf x3), (4, .int x4), (5, .int x5), (6, rf x6), (7, .int x7)]) hC dX2_tryQuotients_61 (by decide) rfl ?_
        refine J_iload (j := 0) hC dX2_tryQuotients_63 rfl ?_
        refine J_iconst (v := (-1)) hC dX2_tryQuotients_65 (by decide) ?_
        refine J_icmp_ne (tgt := 95) hC dX2_tryQuotients_66 (by decide) (fun c11 => ?_) (fun c11 => ?_)
        · have h := ite_f c11 h
          refine J_iload (j := 0) hC dX2_tryQuotients_95 rfl ?_
          refine J_iconst (v := 1) hC dX2_tryQuotients_97 (by decide) ?_
          refine J_iadd hC dX2_tryQuotients_98 ?_
          refine J_iload (j := 7) hC dX2_tryQuotients_99 rfl ?_
          refine J_icmp_le (tgt := 115) hC dX2_tryQuotients_101 (by decide) (fun c17 => ?_) (fun c17 => ?_)
          · have h := ite_t c17 h
            refine J_inc (j := 9) (k := 1) (lv' := [(7, .int (x7 + 1)), (9, .int w10), (8, .int w9), (0, rf x0), (1, .int x1), (2, rf x2), (3, rf x3), (4, .int x4), (5, .int x5), (6, rf x6)]) hC dX2_tryQuotients_115 (by decide) rfl (by decide) rfl ?_
            refine J_goto (tgt := 28) hC dX2_tryQuotients_118 (by decide) ?_
            refine J_sub [3, 4, 5, 6, 7, 8, 9, 0] rfl ?_
            exact ih w6.1 x5 (x7 + 1) h
          · have h := ite_f c17 h
            refine J_iload (j := 0) hC dX2_tryQuotients_104 rfl ?_
            refine J_iconst (v := 1) hC dX2_tryQuotients_106 (by decide) ?_
            refine J_iadd hC dX2_tryQuotients_107 ?_
            refine J_istore (lv' := [(5, .int (w10 + 1)), (9, .int w10), (8, .int w9), (0, rf x0), (1, .int x1), (2, rf x2), (3, rf x3), (4, .int x4), (6, rf x6), (7, .int x7)]) hC dX2_tryQuotients_108 (by decide) rfl ?_
            refine J_aload (j := 8) hC dX2_tryQuotients_110 rfl ?_
            refine ck_c h (fun ho h => ?_)
            refine bnd_c h (fun w18 hw h => ?_)
            refine J_callV (As := []) (M' := w18) (rv := none) (st := []) hC (fun l hl => cX0_rememberBest_ok w6.1 x6 _ hw l hl) vm_X0_rememberBest k_X2_281 ho ⟨rfl, rfl⟩ rfl ⟨show 2 ≤ 4 + (d + 1) by omega, show 46 ≤ 86 + 29 * (d + 1) by omega⟩ (Nat.zero_le _) ⟨Nat.le_of_ble_eq_true rfl, Nat.le_of_ble_eq_true rfl⟩ dX2_tryQuotients_112 rfl ?_
            refine J_inc (j := 9) (k := 1) (lv' := [(7, .int (x7 + 1)), (5, .int (w10 + 1)), (9, .int w10), (8, .int w9), (0, rf x0), (1, .int x1), (2, rf x2), (3, rf x3), (4, .int x4), (6, rf x6)]) hC dX2_tryQuotients_115 (by decide) rfl (by decide) rfl ?_
            refine J_goto (tgt := 28) hC dX2_tryQuotients_118 (by decide) ?_
            refine J_sub [4, 5, 6, 7, 8, 1, 9, 0] rfl ?_
            exact ih w18 (w10 + 1) (x7 + 1) h
        · have h := ite_t c11 h
          refine J_aload (j := 8) hC dX2_tryQuotients_69 rfl ?_
          refine J_g0_1 hC k_X2_271 dX2_tryQuotients_71 h (fun v12 _ h => ?_)
          refine J_iload_n (j := 3) hC dX2_tryQuotients_74 rfl ?_
          refine J_aload_n (j := 4) hC dX2_tryQuotients_75 rfl ?_
          refine J_aload_n (j := 5) hC dX2_tryQuotients_76 rfl ?_
          refine J_iload (j := 6) hC dX2_tryQuotients_77 rfl ?_
          refine J_iconst (v := 1) hC dX2_tryQuotients_79 (by decide) ?_
          refine J_iadd hC dX2_tryQuotients_80 ?_
          refine bnd_c h (fun w13 hw h => ?_)
          refine J_callS (As := [rf v12, .int x1, rf x2, rf x3, .int (x4 + 1)]) (M' := w13.1) (rv := some (Value.int w13.2)) (st := []) hC (fun l hl => hrec w6.1 v12 x1 x2 x3 (x4 + 1) _ hw l hl) sm_X2_tryQuotients k_X2_90 rfl ⟨show 4 + d + 1 ≤ 4 + (d + 1) by omega, show 8 + (10 + 11) + (86 + 29 * d) ≤ 86 + 29 * (d + 1) by omega⟩ (Nat.zero_le _) ⟨Nat.le_of_ble_eq_true rfl, Nat.le_of_ble_eq_true rfl⟩ dX2_tryQuotients_81 rfl ?_
          refine J_istore (lv' := [(9, .int w13.2), (8, .int w9), (0, rf x0), (1, .int x1), (2, rf x2), (3, rf x3), (4, .int x4), (5, .int x5), (6, rf x6), (7, .int x7)]) hC dX2_tryQuotients_84 (by decide) rfl ?_
          refine J_aload_n (j := 5) hC dX2_tryQuotients_86 rfl ?_
          refine J_iload (j := 1) hC dX2_tryQuotients_87 rfl ?_
          refine J_iload_n (j := 3) hC dX2_tryQuotients_89 rfl ?_
          refine J_iload (j := 0) hC dX2_tryQuotients_90 rfl ?_
          refine ck_c h (fun ho h => ?_)
          refine bnd_c h (fun w14 hw h => ?_)
          refine J_callV (As := [.int w9, .int x1, .int w13.2]) (M' := w14) (rv := none) (st := []) hC (fun l hl => cXT_remember_ok w13.1 x3 w9 x1 w13.2 _ hw l hl) vm_XT_remember k_X2_277 ho ⟨rfl, rfl⟩ rfl ⟨show 2 ≤ 4 + (d + 1) by omega, show 45 ≤ 86 + 29 * (d + 1) by omega⟩ (Nat.zero_le _) ⟨Nat.le_of_ble_eq_true rfl, Nat.le_of_ble_eq_true rfl⟩ dX2_tryQuotients_92 rfl ?_
          refine J_iload (j := 0) hC dX2_tryQuotients_95 rfl ?_
          refine J_iconst (v := 1) hC dX2_tryQuotients_97 (by decide) ?_
          refine J_iadd hC dX2_tryQuotients_98 ?_
          refine J_iload (j := 7) hC dX2_tryQuotients_99 rfl ?_
          refine J_icmp_le (tgt := 115) hC dX2_tryQuotients_101 (by decide) (fun c15 => ?_) (fun c15 => ?_)
          · have h := ite_t c15 h
            refine J_inc (j := 9) (k := 1) (lv' := [(7, .int (x7 + 1)), (9, .int w13.2), (8, .int w9), (0, rf x0), (1, .int x1), (2, rf x2), (3, rf x3), (4, .int x4), (5, .int x5), (6, rf x6)]) hC dX2_tryQuotients_115 (by decide) rfl (by decide) rfl ?_
            refine J_goto (tgt := 28) hC dX2_tryQuotients_118 (by decide) ?_
            refine J_sub [3, 4, 5, 6, 7, 8, 9, 0] rfl ?_
            exact ih w14 x5 (x7 + 1) h
          · have h := ite_f c15 h
            refine J_iload (j := 0) hC dX2_tryQuotients_104 rfl ?_
            refine J_iconst (v := 1) hC dX2_tryQuotients_106 (by decide) ?_
            refine J_iadd hC dX2_tryQuotients_107 ?_
            refine J_istore (lv' := [(5, .int (w13.2 + 1)), (9, .int w13.2), (8, .int w9), (0, rf x0), (1, .int x1), (2, rf x2), (3, rf x3), (4, .int x4), (6, rf x6), (7, .int x7)]) hC dX2_tryQuotients_108 (by decide) rfl ?_
            refine J_aload (j := 8) hC dX2_tryQuotients_110 rfl ?_
            refine ck_c h (fun ho h => ?_)
            refine bnd_c h (fun w16 hw h => ?_)
            refine J_callV (As := []) (M' := w16) (rv := none) (st := []) hC (fun l hl => cX0_rememberBest_ok w14 x6 _ hw l hl) vm_X0_rememberBest k_X2_281 ho ⟨rfl, rfl⟩ rfl ⟨show 2 ≤ 4 + (d + 1) by omega, show 46 ≤ 86 + 29 * (d + 1) by omega⟩ (Nat.zero_le _) ⟨Nat.le_of_ble_eq_true rfl, Nat.le_of_ble_eq_true rfl⟩ dX2_tryQuotients_112 rfl ?_
            refine J_inc (j := 9) (k := 1) (lv' := [(7, .int (x7 + 1)), (5, .int (w13.2 + 1)), (9, .int w13.2), (8, .int w9), (0, rf x0), (1, .int x1), (2, rf x2), (3, rf x3), (4, .int x4), (6, rf x6)]) hC dX2_tryQuotients_115 (by decide) rfl (by decide) rfl ?_
            refine J_goto (tgt := 28) hC dX2_tryQuotients_118 (by decide) ?_
            refine J_sub [4, 5, 6, 7, 8, 1, 9, 0] rfl ?_
            exact ih w16 (w13.2 + 1) (x7 + 1) h
