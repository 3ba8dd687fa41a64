set_option maxHeartbeats 4000000 in
set_option maxRecDepth 100000 in
theorem cX2_tryQuotients_B_ok {d : Nat} (rec : Mem → Option Nat → Int32 → Option Nat → Option Nat → Int32 → Option (Mem × Int32)) (hrec : ∀ (M : Mem) (a0 : Option Nat) (a1 : Int32) (a2 : Option Nat) (a3 : Option Nat) (a4 : Int32) (r0 : Mem × Int32), rec M a0 a1 a2 a3 a4 = some r0 → ∀ l : Launch, l.stackTraces = false → Con false l yX2_tryQuotients cX2_tryQuotients 10 (some .int) (rm_X2_tryQuotients d) [rf a0, .int a1, rf a2, rf a3, .int a4] M (r0.1, Sum.inr (some (Value.int r0.2)))) (M : Mem) (a0 : Option Nat) (a1 : Int32) (a2 : Option Nat) (a3 : Option Nat) (a4 : Int32) (r0 : Mem × Int32) (h : fX2_tryQuotients_B rec M a0 a1 a2 a3 a4 = some r0) : ∀ l : Launch, l.stackTraces = false → Con false l yX2_tryQuotients cX2_tryQuotients 10 (some .int) (rm_X2_tryQuotients (d + 1)) [rf a0, .int a1, rf a2, rf a3, .int a4] M (r0.1, Sum.inr (some (Value.int r0.2))) := by
  intro l hst
  refine Con.enter hst (own := RX2) (by decide +kernel) rfl (by exact Nat.le_of_ble_eq_true rfl) (lv0 := [(0, rf a0), (1, .int a1), (2, rf a2), (3, rf a3), (4, .int a4)]) (rfl) (fun C hC hin => ?_)
  unfold fX2_tryQuotients_B at h
  refine J_iload (j := 4) hC dX2_tryQuotients_0 rfl ?_
  refine J_aload_n (j := 2) hC dX2_tryQuotients_2 rfl ?_
  refine J_alen hC dX2_tryQuotients_3 h (fun v1 _ h => ?_)
  refine J_icmp_lt (tgt := 9) hC dX2_tryQuotients_4 (by decide) (fun c2 => ?_) (fun c2 => ?_)
  · have h := ite_t c2 h
    refine J_iconst (v := 0) hC dX2_tryQuotients_9 (by decide) ?_
    refine J_istore (lv' := [(5, .int 0), (0, rf a0), (1, .int a1), (2, rf a2), (3, rf a3), (4, .int a4)]) hC dX2_tryQuotients_10 (by decide) rfl ?_
    refine J_aload_n (j := 3) hC dX2_tryQuotients_12 rfl ?_
    refine J_iload (j := 5) hC dX2_tryQuotients_13 rfl ?_
    refine J_aald7 hC dX2_tryQuotients_15 h (fun v3 _ h => ?_)
    refine J_astore (lv' := [(6, rf v3), (5, .int 0), (0, rf a0), (1, .int a1), (2, rf a2), (3, rf a3), (4, .int a4)]) hC dX2_tryQuotients_16 (by decide) rfl ?_
    refine J_aload (j := 0) hC dX2_tryQuotients_18 rfl ?_
    refine J_aload_n (j := 2) hC dX2_tryQuotients_20 rfl ?_
    refine J_iload_n (j := 3) hC dX2_tryQuotients_21 rfl ?_
    refine ck_c h (fun ho h => ?_)
    refine bnd_c h (fun w4 hw h => ?_)
    refine J_callV (As := [rf a0, .int a1]) (M' := w4) (rv := none) (st := []) hC (fun l hl => cX0_start_ok M v3 a0 a1 _ hw l hl) vm_X0_start k_X2_262 ho ⟨rfl, rfl⟩ rfl ⟨show 2 ≤ 4 + (d + 1) by omega, show 44 ≤ 86 + 29 * (d + 1) by omega⟩ (Nat.zero_le _) ⟨Nat.le_of_ble_eq_true rfl, Nat.le_of_ble_eq_true rfl⟩ dX2_tryQuotients_22 rfl ?_
    refine J_iconst (v := 0) hC dX2_tryQuotients_25 (by decide) ?_
    refine J_istore (lv' := [(7, .int 0), (6, rf v3), (5, .int 0), (0, rf a0), (1, .int a1), (2, rf a2), (3, rf a3), (4, .int a4)]) hC dX2_tryQuotients_26 (by decide) rfl ?_
    refine J_sub [3, 4, 5, 6, 7, 2, 1, 0] rfl ?_
    refine tX2_tryQuotients_28 rec a0 a1 a2 a3 a4 v3 hC hrec _ (fun M19 x20 x21 h => ?_) FU w4 0 0 h
    · refine J_iload (j := 5) hC dX2_tryQuotients_121 rfl ?_
      exact J_iret hC dX2_tryQuotients_123 (by have h9 := Option.some.inj h; subst h9; rfl) (Nat.le_of_ble_eq_true rfl) (Nat.le_of_ble_eq_true rfl)
  · have h := ite_f c2 h
    refine J_iconst (v := 0) hC dX2_tryQuotients_7 (by decide) ?_
    exact J_iret hC dX2_tryQuotients_8 (by have h9 := Option.some.inj h; subst h9; rfl) (Nat.le_of_ble_eq_true rfl) (Nat.le_of_ble_eq_true rfl)
theorem cX2_tryQuotients_D_ok : ∀ (d : Nat) (M : Mem) (a0 : Option Nat) (a1 : Int32) (a2 : Option Nat) (a3 : Option Nat) (a4 : Int32) (r0 : Mem × Int32), fX2_tryQuotients_D d M a0 a1 a2 a3 a4 = some r0 → ∀ l : Launch, l.stackTraces = false → Con false l yX2_tryQuotients cX2_tryQuotients 10 (some .int) (rm_X2_tryQuotients d) [rf a0, .int a1, rf a2, rf a3, .int a4] M (r0.1, Sum.inr (some (Value.int r0.2))) := by
  intro d
  induction d with
  | zero => intro M a0 a1 a2 a3 a4 r0 h; have h : none = some r0 := h; cases h
  | succ d ih => intro M a0 a1 a2 a3 a4 r0 h; exact cX2_tryQuotients_B_ok (fX2_tryQuotients_D d) ih M a0 a1 a2 a3 a4 r0 h
theorem cX2_tryQuotients_ok (M : Mem) (a0 : Option Nat) (a1 : Int32) (a2 : Option Nat) (a3 : Option Nat) (a4 : Int32) (r0 : Mem × Int32) (h : fX2_tryQuotients M a0 a1 a2 a3 a4 = some r0) : ∀ l : Launch, l.stackTraces = false → Con false l yX2_tryQuotients cX2_tryQuotients 10 (some .int) (rm_X2_tryQuotients 12) [rf a0, .int a1, rf a2, rf a3, .int a4] M (r0.1, Sum.inr (some (Value.int r0.2))) := cX2_tryQuotients_D_ok 12 M a0 a1 a2 a3 a4 r0 h
abbrev rm_X2_divide : Room := { frames := 17, cells := 0, slots := 0, locals := 463 }

set_option maxHeartbeats 4000000 in
set_option maxRecDepth 100000 in
theorem cX2_divide_ok (M : Mem) (a0 : Option Nat) (a1 : Int32) (a2 : Int32) (r0 : Mem × Int32) (h : fX2_divide M a0 a1 a2 = some r0) : ∀ l : Launch, l.stackTraces = false → Con false l yX2_divide cX2_divide 4 (some .int) rm_X2_divide [rf a0, .int a1, .int a2] M (r0.1, Sum.inr (some (Value.int r0.2))) := by
  intro l hst
  refine Con.enter hst (own := RX2) (by decide +kernel) rfl (by exact Nat.le_of_ble_eq_true rfl) (lv0 := [(0, rf a0), (1, .int a1), (2, .int a2)]) (rfl) (fun C hC hin => ?_)
  unfold fX2_divide at h
  refine J_iload_n (j := 1) hC dX2_divide_0 rfl ?_
  refine bnd_c h (fun w1 hw h => ?_)
  refine J_callS (As := [.int a1]) (M' := M) (rv := none) (st := []) hC (fun l hl => cX2_checkNumber_ok M a1 _ hw l hl) sm_X2_checkNumber k_X2_56 rfl ⟨Nat.le_of_ble_eq_true rfl, Nat.le_of_ble_eq_true rfl⟩ (Nat.zero_le _) ⟨Nat.le_of_ble_eq_true rfl, Nat.le_of_ble_eq_true rfl⟩ dX2_divide_1 rfl ?_
  refine J_iload_n (j := 2) hC dX2_divide_4 rfl ?_
  refine bnd_c h (fun w2 hw h => ?_)
  refine J_callS (As := [.int a2]) (M' := M) (rv := none) (st := []) hC (fun l hl => cX2_checkSign_ok M a2 _ hw l hl) sm_X2_checkSign k_X2_63 rfl ⟨Nat.le_of_ble_eq_true rfl, Nat.le_of_ble_eq_true rfl⟩ (Nat.zero_le _) ⟨Nat.le_of_ble_eq_true rfl, Nat.le_of_ble_eq_true rfl⟩ dX2_divide_5 rfl ?_
  refine J_aload_n (j := 0) hC dX2_divide_8 rfl ?_
  refine ck_c h (fun ho h => ?_)
  refine bnd_c h (fun w3 hw h => ?_)
  refine J_callV (As := []) (M' := w3) (rv := none) (st := []) hC (fun l hl => cX2_save_ok M a0 _ hw l hl) vm_X2_save k_X2_66 ho ⟨rfl, rfl⟩ rfl ⟨Nat.le_of_ble_eq_true rfl, Nat.le_of_ble_eq_true rfl⟩ (Nat.zero_le _) ⟨Nat.le_of_ble_eq_true rfl, Nat.le_of_ble_eq_true rfl⟩ dX2_divide_9 rfl ?_
  refine J_aload_n (j := 0) hC dX2_divide_12 rfl ?_
  refine J_g2_0 hC k_X2_12 dX2_divide_13 h (fun v4 _ h => ?_)
  refine J_g1_0 hC k_X2_69 dX2_divide_16 h (fun v5 _ h => ?_)
  refine J_iload_n (j := 1) hC dX2_divide_19 rfl ?_
  refine J_aald9 hC dX2_divide_20 h (fun v6 _ h => ?_)
  refine J_astore_n (i := 3) (lv' := [(3, rf v6), (0, rf a0), (1, .int a1), (2, .int a2)]) rfl hC dX2_divide_21 (by decide) rfl ?_
  refine J_aload_n (j := 0) hC dX2_divide_22 rfl ?_
  refine J_iload_n (j := 3) hC dX2_divide_23 rfl ?_
  refine J_aload_n (j := 1) hC dX2_divide_24 rfl ?_
  refine J_g2_8 hC k_X2_44 dX2_divide_25 h (fun v7 _ h => ?_)
  refine J_aload_n (j := 1) hC dX2_divide_28 rfl ?_
  refine J_g2_9 hC k_X2_51 dX2_divide_29 h (fun v8 _ h => ?_)
  refine J_iconst (v := 0) hC dX2_divide_32 (by decide) ?_
  refine bnd_c h (fun w9 hw h => ?_)
  refine J_callS (As := [rf v6, .int a2, rf v7, rf v8, .int 0]) (M' := w9.1) (rv := some (Value.int w9.2)) (st := []) hC (fun l hl => cX2_tryQuotients_ok w3 v6 a2 v7 v8 0 _ hw l hl) sm_X2_tryQuotients k_X2_90 rfl ⟨Nat.le_of_ble_eq_true rfl, Nat.le_of_ble_eq_true rfl⟩ (Nat.zero_le _) ⟨Nat.le_of_ble_eq_true rfl, Nat.le_of_ble_eq_true rfl⟩ dX2_divide_33 rfl ?_
  refine J_if_ne (tgt := 55) hC dX2_divide_36 (by decide) (fun c10 => ?_) (fun c10 => ?_)
  · have h := ite_f c10 h
    refine J_aload_n (j := 1) hC dX2_divide_55 rfl ?_
    refine J_g2_8 hC k_X2_44 dX2_divide_56 h (fun v14 _ h => ?_)
    refine J_iconst (v := 0) hC dX2_divide_59 (by decide) ?_
    refine J_aald7 hC dX2_divide_60 h (fun v15 _ h => ?_)
    refine J_g0_2 hC k_X2_94 dX2_divide_61 h (fun v16 _ h => ?_)
    refine J_iconst (v := 0) hC dX2_divide_64 (by decide) ?_
    refine J_aload_n (j := 0) hC dX2_divide_65 rfl ?_
    refine J_iconst (v := 0) hC dX2_divide_66 (by decide) ?_
    refine J_bipush (v := 9) hC dX2_divide_67 (by decide) ?_
    refine J_copyi hC k_X2_84 (Nat.zero_le _) (Nat.le_of_ble_eq_true rfl) (Nat.le_of_ble_eq_true rfl) dX2_divide_69 h (fun M17 _ h => ?_)
    refine J_aload_n (j := 1) hC dX2_divide_72 rfl ?_
    refine J_g2_0 hC k_X2_12 dX2_divide_73 h (fun v18 _ h => ?_)
    refine J_dup hC dX2_divide_76 rfl ?_
    refine J_g1_3 hC k_X2_97 dX2_divide_77 h (fun v19 _ h => ?_)
    refine J_iconst (v := 1) hC dX2_divide_80 (by decide) ?_
    refine J_iadd hC dX2_divide_81 ?_
    refine J_p1_3 hC k_X2_97 dX2_divide_82 h (fun M20 _ h => ?_)
    refine J_aload_n (j := 0) hC dX2_divide_85 rfl ?_
    refine bnd_c h (fun w21 hw h => ?_)
    refine J_callS (As := [rf v6]) (M' := M20) (rv := some (Value.int w21)) (st := []) hC (fun l hl => cX2_degreeOf_ok M20 v6 _ hw l hl) sm_X2_degreeOf k_X2_80 rfl ⟨Nat.le_of_ble_eq_true rfl, Nat.le_of_ble_eq_true rfl⟩ (Nat.zero_le _) ⟨Nat.le_of_ble_eq_true rfl, Nat.le_of_ble_eq_true rfl⟩ dX2_divide_86 rfl ?_
    exact J_iret hC dX2_divide_89 (by have h9 := Option.some.inj h; subst h9; rfl) (Nat.le_of_ble_eq_true rfl) (Nat.le_of_ble_eq_true rfl)
  · have h := ite_t c10 h
    refine J_aload_n (j := 1) hC dX2_divide_39 rfl ?_
    refine J_g2_0 hC k_X2_12 dX2_divide_40 h (fun v11 _ h => ?_)
    refine J_dup hC dX2_divide_43 rfl ?_
    refine J_g1_4 hC k_X2_77 dX2_divide_44 h (fun v12 _ h => ?_)
    refine J_iconst (v := 1) hC dX2_divide_47 (by decide) ?_
    refine J_iadd hC dX2_divide_48 ?_
    refine J_p1_4 hC k_X2_77 dX2_divide_49 h (fun M13 _ h => ?_)
    refine J_bipush (v := (-9)) hC dX2_divide_52 (by decide) ?_
    exact J_iret hC dX2_divide_54 (by have h9 := Option.some.inj h; subst h9; rfl) (Nat.le_of_ble_eq_true rfl) (Nat.le_of_ble_eq_true rfl)
abbrev rm_X2_root : Room := { frames := 3, cells := 0, slots := 0, locals := 68 }

set_option maxHeartbeats 4000000 in
set_option maxRecDepth 100000 in
theorem cX2_root_ok (M : Mem) (a0 : Option Nat) (a1 : Int32) (r0 : Mem × Int32) (h : fX2_root M a0 a1 = some r0) : ∀ l : Launch, l.stackTraces = false → Con false l yX2_root cX2_root 2 (some .int) rm_X2_root [rf a0, .int a1] M (r0.1, Sum.inr (some (Value.int r0.2))) := by
  intro l hst
  refine Con.enter hst (own := RX2) (by decide +kernel) rfl (by exact Nat.le_of_ble_eq_true rfl) (lv0 := [(0, rf a0), (1, .int a1)]) (rfl) (fun C hC hin => ?_)
  unfold fX2_root at h
  refine J_iload_n (j := 1) hC dX2_root_0 rfl ?_
  refine J_bipush (v := (-9)) hC dX2_root_1 (by decide) ?_
  refine J_icmp_lt (tgt := 12) hC dX2_root_3 (by decide) (fun c1 => ?_) (fun c1 => ?_)
  · have h := ite_t c1 h
    cases h
  · have h := ite_f c1 h
    refine J_iload_n (j := 1) hC dX2_root_6 rfl ?_
    refine J_bipush (v := 9) hC dX2_root_7 (by decide) ?_
    refine J_icmp_le (tgt := 22) hC dX2_root_9 (by decide) (fun c2 => ?_) (fun c2 => ?_)
    · have h := ite_t c2 h
      refine J_aload_n (j := 0) hC dX2_root_22 rfl ?_
      refine ck_c h (fun ho h => ?_)
      refine bnd_c h (fun w3 hw h => ?_)
      refine J_callV (As := []) (M' := w3) (rv := none) (st := []) hC (fun l hl => cX2_save_ok M a0 _ hw l hl) vm_X2_save k_X2_66 ho ⟨rfl, rfl⟩ rfl ⟨Nat.le_of_ble_eq_true rfl, Nat.le_of_ble_eq_true rfl⟩ (Nat.zero_le _) ⟨Nat.le_of_ble_eq_true rfl, Nat.le_of_ble_eq_true rfl⟩ dX2_root_23 rfl ?_
      refine J_aload_n (j := 0) hC dX2_root_26 rfl ?_
      refine J_g2_0 hC k_X2_12 dX2_root_27 h (fun v4 _ h => ?_)
      refine J_g1_2 hC k_X2_107 dX2_root_30 h (fun v5 _ h => ?_)
      refine J_bipush (v := 8) hC dX2_root_33 (by decide) ?_
      refine J_icmp_lt (tgt := 54) hC dX2_root_35 (by decide) (fun c6 => ?_) (fun c6 => ?_)
      · have h := ite_t c6 h
        refine J_aload_n (j := 0) hC dX2_root_54 rfl ?_
        refine J_g2_0 hC k_X2_12 dX2_root_55 h (fun v7 _ h => ?_)
        refine J_g1_1 hC k_X2_110 dX2_root_58 h (fun v8 _ h => ?_)
        refine J_aload_n (j := 0) hC dX2_root_61 rfl ?_
        refine J_g2_0 hC k_X2_12 dX2_root_62 h (fun v9 _ h => ?_)
        refine J_g1_2 hC k_X2_107 dX2_root_65 h (fun v10 _ h => ?_)
        refine J_iload_n (j := 1) hC dX2_root_68 rfl ?_
        refine J_iast hC dX2_root_69 h (fun M11 _ h => ?_)
        refine J_aload_n (j := 0) hC dX2_root_70 rfl ?_
        refine J_g2_0 hC k_X2_12 dX2_root_71 h (fun v12 _ h => ?_)
        refine J_dup hC dX2_root_74 rfl ?_
        refine J_g1_2 hC k_X2_107 dX2_root_75 h (fun v13 _ h => ?_)
        refine J_iconst (v := 1) hC dX2_root_78 (by decide) ?_
        refine J_iadd hC dX2_root_79 ?_
        refine J_p1_2 hC k_X2_107 dX2_root_80 h (fun M14 _ h => ?_)
        refine J_aload_n (j := 0) hC dX2_root_83 rfl ?_
        refine J_g2_0 hC k_X2_12 dX2_root_84 h (fun v15 _ h => ?_)
        refine J_g1_2 hC k_X2_107 dX2_root_87 h (fun v16 _ h => ?_)
        exact J_iret hC dX2_root_90 (by have h9 := Option.some.inj h; subst h9; rfl) (Nat.le_of_ble_eq_true rfl) (Nat.le_of_ble_eq_true rfl)
      · have h := ite_f c6 h
        refine J_aload_n (j := 0) hC dX2_root_38 rfl ?_
        refine J_g2_0 hC k_X2_12 dX2_root_39 h (fun v17 _ h => ?_)
        refine J_dup hC dX2_root_42 rfl ?_
        refine J_g1_4 hC k_X2_77 dX2_root_43 h (fun v18 _ h => ?_)
        refine J_iconst (v := 1) hC dX2_root_46 (by decide) ?_
        refine J_iadd hC dX2_root_47 ?_
        refine J_p1_4 hC k_X2_77 dX2_root_48 h (fun M19 _ h => ?_)
        refine J_bipush (v := (-9)) hC dX2_root_51 (by decide) ?_
        exact J_iret hC dX2_root_53 (by have h9 := Option.some.inj h; subst h9; rfl) (Nat.le_of_ble_eq_true rfl) (Nat.le_of_ble_eq_true rfl)
    · have h := ite_f c2 h
      cases h
abbrev rm_X2_unroot : Room := { frames := 3, cells := 0, slots := 0, locals := 68 }

set_option maxHeartbeats 4000000 in
set_option maxRecDepth 100000 in
theorem cX2_unroot_ok (M : Mem) (a0 : Option Nat) (r0 : Mem × Int32) (h : fX2_unroot M a0 = some r0) : ∀ l : Launch, l.stackTraces = false → Con false l yX2_unroot cX2_unroot 1 (some .int) rm_X2_unroot [rf a0] M (r0.1, Sum.inr (some (Value.int r0.2))) := by
  intro l hst
  refine Con.enter hst (own := RX2) (by decide +kernel) rfl (by exact Nat.le_of_ble_eq_true rfl) (lv0 := [(0, rf a0)]) (rfl) (fun C hC hin => ?_)
  unfold fX2_unroot at h
  refine J_aload_n (j := 0) hC dX2_unroot_0 rfl ?_
  refine ck_c h (fun ho h => ?_)
  refine bnd_c h (fun w1 hw h => ?_)
  refine J_callV (As := []) (M' := w1) (rv := none) (st := []) hC (fun l hl => cX2_save_ok M a0 _ hw l hl) vm_X2_save k_X2_66 ho ⟨rfl, rfl⟩ rfl ⟨Nat.le_of_ble_eq_true rfl, Nat.le_of_ble_eq_true rfl⟩ (Nat.zero_le _) ⟨Nat.le_of_ble_eq_true rfl, Nat.le_of_ble_eq_true rfl⟩ dX2_unroot_1 rfl ?_
  refine J_aload_n (j := 0) hC dX2_unroot_4 rfl ?_
  refine J_g2_0 hC k_X2_12 dX2_unroot_5 h (fun v2 _ h => ?_)
  refine J_g1_2 hC k_X2_107 dX2_unroot_8 h (fun v3 _ h => ?_)
  refine J_if_gt (tgt := 30) hC dX2_unroot_11 (by decide) (fun c4 => ?_) (fun c4 => ?_)
  · have h := ite_t c4 h
    refine J_aload_n (j := 0) hC dX2_unroot_30 rfl ?_
    refine J_g2_0 hC k_X2_12 dX2_unroot_31 h (fun v5 _ h => ?_)
    refine J_dup hC dX2_unroot_34 rfl ?_
    refine J_g1_2 hC k_X2_107 dX2_unroot_35 h (fun v6 _ h => ?_)
    refine J_iconst (v := 1) hC dX2_unroot_38 (by decide) ?_
    refine J_isub hC dX2_unroot_39 ?_
    refine J_p1_2 hC k_X2_107 dX2_unroot_40 h (fun M7 _ h => ?_)
    refine J_aload_n (j := 0) hC dX2_unroot_43 rfl ?_
    refine J_g2_0 hC k_X2_12 dX2_unroot_44 h (fun v8 _ h => ?_)
    refine J_g1_1 hC k_X2_110 dX2_unroot_47 h (fun v9 _ h => ?_)
    refine J_aload_n (j := 0) hC dX2_unroot_50 rfl ?_
    refine J_g2_0 hC k_X2_12 dX2_unroot_51 h (fun v10 _ h => ?_)
    refine J_g1_2 hC k_X2_107 dX2_unroot_54 h (fun v11 _ h => ?_)
    refine J_iald hC dX2_unroot_57 h (fun v12 _ h => ?_)
    exact J_iret hC dX2_unroot_58 (by have h9 := Option.some.inj h; subst h9; rfl) (Nat.le_of_ble_eq_true rfl) (Nat.le_of_ble_eq_true rfl)
  · have h := ite_f c4 h
    refine J_aload_n (j := 0) hC dX2_unroot_14 rfl ?_
    refine J_g2_0 hC k_X2_12 dX2_unroot_15 h (fun v13 _ h => ?_)
    refine J_dup hC dX2_unroot_18 rfl ?_
    refine J_g1_4 hC k_X2_77 dX2_unroot_19 h (fun v14 _ h => ?_)
    refine J_iconst (v := 1) hC dX2_unroot_22 (by decide) ?_
    refine J_iadd hC dX2_unroot_23 ?_
    refine J_p1_4 hC k_X2_77 dX2_unroot_24 h (fun M15 _ h => ?_)
    refine J_bipush (v := 99) hC dX2_unroot_27 (by decide) ?_
    exact J_iret hC dX2_unroot_29 (by have h9 := Option.some.inj h; subst h9; rfl) (Nat.le_of_ble_eq_true rfl) (Nat.le_of_ble_eq_true rfl)
abbrev rm_X2_expandWhole : Room := { frames := 0, cells := 0, slots := 0, locals := 0 }

set_option maxHeartbeats 4000000 in
set_option maxRecDepth 100000 in
theorem tX2_expandWhole_2 {C : JC} {r0 : Mem} (x0 : Option Nat) (hC : Ok C false cX2_expandWhole 3 rm_X2_expandWhole none RX2 (r0, Sum.inr none))  (k21 : Mem → Int32 → Option (Mem)) (hk21 : ∀ (M : Mem) (x1 : Int32), k21 M x1 = some r0 → J C 0 0 M 21 [(0, rf x0), (1, .int x1)] []) : ∀ (n : Nat) (M : Mem) (x1 : Int32), fX2_expandWhole_2 x0 k21 n M x1 = some r0 → J C 0 0 M 2 [(0, rf x0), (1, .int x1)] [] := by
  intro n
  induction n with
  | zero => intro M x1 h; have h : none = some r0 := h; cases h
  | succ n ih =>
    intro M x1 h
    rw [fX2_expandWhole_2] at h
    refine J_iload_n (j := 1) hC dX2_expandWhole_2 rfl ?_
    refine J_bipush (v := 9) hC dX2_expandWhole_3 (by decide) ?_
    refine J_icmp_ge (tgt := 21) hC dX2_expandWhole_5 (by decide) (fun c1 => ?_) (fun c1 => ?_)
    · have h := ite_t c1 h
      refine J_sub [0, 1] rfl ?_
      exact hk21 M x1 h
    · have h := ite_f c1 h
      refine J_aload_n (j := 0) hC dX2_expandWhole_8 rfl ?_
      refine J_g2_7 hC k_X2_38 dX2_expandWhole_9 h (fun v2 _ h => ?_)
      refine J_iload_n (j := 1) hC dX2_expandWhole_12 rfl ?_
      refine J_lconst (v := 0) hC dX2_expandWhole_13 (by decide) ?_
      refine J_last hC dX2_expandWhole_14 h (fun M3 _ h => ?_)
      refine J_inc (j := 1) (k := 1) (lv' := [(1, .int (x1 + 1)), (0, rf x0)]) hC dX2_expandWhole_15 (by decide) rfl (by decide) rfl ?_
      refine J_goto (tgt := 2) hC dX2_expandWhole_18 (by decide) ?_
      refine J_sub [1, 0] rfl ?_
      exact ih M3 (x1 + 1) h
set_option maxHeartbeats 4000000 in
set_option maxRecDepth 100000 in
theorem tX2_expandWhole_51 {C : JC} {r0 : Mem} (x0 : Option Nat) (x1 : Int32) (hC : Ok C false cX2_expandWhole 3 rm_X2_expandWhole none RX2 (r0, Sum.inr none))  (k93 : Mem → Int32 → Option (Mem)) (hk93 : ∀ (M : Mem) (x2 : Int32), k93 M x2 = some r0 → J C 0 0 M 93 [(0, rf x0), (1, .int x1), (2, .int x2)] []) : ∀ (n : Nat) (M : Mem) (x2 : Int32), fX2_expandWhole_51 x0 x1 k93 n M x2 = some r0 → J C 0 0 M 51 [(0, rf x0), (1, .int x1), (2, .int x2)] [] := by
  intro n
  induction n with
  | zero => intro M x2 h; have h : none = some r0 := h; cases h
  | succ n ih =>
    intro M x2 h
    rw [fX2_expandWhole_51] at h
    refine J_iload_n (j := 2) hC dX2_expandWhole_51 rfl ?_
    refine J_if_le (tgt := 93) hC dX2_expandWhole_52 (by decide) (fun c12 => ?_) (fun c12 => ?_)
    · have h := ite_t c12 h
      refine J_sub [0, 1, 2] rfl ?_
      exact hk93 M x2 h
    · have h := ite_f c12 h
      refine J_aload_n (j := 0) hC dX2_expandWhole_55 rfl ?_
      refine J_g2_7 hC k_X2_38 dX2_expandWhole_56 h (fun v13 _ h => ?_)
      refine J_iload_n (j := 2) hC dX2_expandWhole_59 rfl ?_
      refine J_aload_n (j := 0) hC dX2_expandWhole_60 rfl ?_
      refine J_g2_7 hC k_X2_38 dX2_expandWhole_61 h (fun v14 _ h => ?_)
      refine J_iload_n (j := 2) hC dX2_expandWhole_64 rfl ?_
      refine J_iconst (v := 1) hC dX2_expandWhole_65 (by decide) ?_
      refine J_isub hC dX2_expandWhole_66 ?_
      refine J_lald hC dX2_expandWhole_67 h (fun v15 _ h => ?_)
      refine J_aload_n (j := 0) hC dX2_expandWhole_68 rfl ?_
      refine J_g2_0 hC k_X2_12 dX2_expandWhole_69 h (fun v16 _ h => ?_)
      refine J_g1_1 hC k_X2_110 dX2_expandWhole_72 h (fun v17 _ h => ?_)
      refine J_iload_n (j := 1) hC dX2_expandWhole_75 rfl ?_
      refine J_iald hC dX2_expandWhole_76 h (fun v18 _ h => ?_)
      refine J_i2l hC dX2_expandWhole_77 ?_
      refine J_aload_n (j := 0) hC dX2_expandWhole_78 rfl ?_
      refine J_g2_7 hC k_X2_38 dX2_expandWhole_79 h (fun v19 _ h => ?_)
      refine J_iload_n (j := 2) hC dX2_expandWhole_82 rfl ?_
      refine J_lald hC dX2_expandWhole_83 h (fun v20 _ h => ?_)
      refine J_lmul hC dX2_expandWhole_84 ?_
      refine J_lsub hC dX2_expandWhole_85 ?_
      refine J_last hC dX2_expandWhole_86 h (fun M21 _ h => ?_)
      refine J_inc (j := 2) (k := (-1)) (lv' := [(2, .int (x2 + (-1))), (0, rf x0), (1, .int x1)]) hC dX2_expandWhole_87 (by decide) rfl (by decide) rfl ?_
      refine J_goto (tgt := 51) hC dX2_expandWhole_90 (by decide) ?_
      refine J_sub [1, 2, 0] rfl ?_
      exact ih M21 (x2 + (-1)) h
set_option maxHeartbeats 4000000 in
set_option maxRecDepth 100000 in
theorem tX2_expandWhole_30 {C : JC} {r0 : Mem} (x0 : Option Nat) (hC : Ok C false cX2_expandWhole 3 rm_X2_expandWhole none RX2 (r0, Sum.inr none))  (k123 : Mem → Int32 → Option (Mem)) (hk123 : ∀ (M : Mem) (x1 : Int32), k123 M x1 = some r0 → J C 0 0 M 123 [(0, rf x0), (1, .int x1)] []) : ∀ (n : Nat) (M : Mem) (x1 : Int32), fX2_expandWhole_30 x0 k123 n M x1 = some r0 → J C 0 0 M 30 [(0, rf x0), (1, .int x1)] [] := by
  intro n
  induction n with
  | zero => intro M x1 h; have h : none = some r0 := h; cases h
  | succ n ih =>
    intro M x1 h
    rw [fX2_expandWhole_30] at h
    refine J_iload_n (j := 1) hC dX2_expandWhole_30 rfl ?_
    refine J_aload_n (j := 0) hC dX2_expandWhole_31 rfl ?_
    refine J_g2_0 hC k_X2_12 dX2_expandWhole_32 h (fun v8 _ h => ?_)
    refine J_g1_2 hC k_X2_107 dX2_expandWhole_35 h (fun v9 _ h => ?_)
    refine J_icmp_ge (tgt := 123) hC dX2_expandWhole_38 (by decide) (fun c10 => ?_) (fun c10 => ?_)
    · have h := ite_t c10 h
      refine J_sub [0, 1] rfl ?_
      exact hk123 M x1 h
    · have h := ite_f c10 h
      refine J_iload_n (j := 1) hC dX2_expandWhole_41 rfl ?_
      refine J_bipush (v := 8) hC dX2_expandWhole_42 (by decide) ?_
      refine J_icmp_ge (tgt := 123) hC dX2_expandWhole_44 (by decide) (fun c11 => ?_) (fun c11 => ?_)
      · have h := ite_t c11 h
        refine J_sub [0, 1] rfl ?_
        exact hk123 M x1 h
      · have h := ite_f c11 h
        refine J_iload_n (j := 1) hC dX2_expandWhole_47 rfl ?_
        refine J_iconst (v := 1) hC dX2_expandWhole_48 (by decide) ?_
        refine J_iadd hC dX2_expandWhole_49 ?_
        refine J_istore_n (i := 2) (lv' := [(2, .int (x1 + 1)), (0, rf x0), (1, .int x1)]) rfl hC dX2_expandWhole_50 (by decide) rfl ?_
        refine J_sub [1, 2, 0] rfl ?_
        refine tX2_expandWhole_51 x0 x1 hC _ (fun M22 x23 h => ?_) FU M (x1 + 1) h
        · refine J_aload_n (j := 0) hC dX2_expandWhole_93 rfl ?_
          refine J_g2_7 hC k_X2_38 dX2_expandWhole_94 h (fun v24 _ h => ?_)
          refine J_iconst (v := 0) hC dX2_expandWhole_97 (by decide) ?_
          refine J_aload_n (j := 0) hC dX2_expandWhole_98 rfl ?_
          refine J_g2_0 hC k_X2_12 dX2_expandWhole_99 h (fun v25 _ h => ?_)
          refine J_g1_1 hC k_X2_110 dX2_expandWhole_102 h (fun v26 _ h => ?_)
          refine J_iload_n (j := 1) hC dX2_expandWhole_105 rfl ?_
          refine J_iald hC dX2_expandWhole_106 h (fun v27 _ h => ?_)
          refine J_ineg hC dX2_expandWhole_107 ?_
          refine J_i2l hC dX2_expandWhole_108 ?_
          refine J_aload_n (j := 0) hC dX2_expandWhole_109 rfl ?_
          refine J_g2_7 hC k_X2_38 dX2_expandWhole_110 h (fun v28 _ h => ?_)
          refine J_iconst (v := 0) hC dX2_expandWhole_113 (by decide) ?_
          refine J_lald hC dX2_expandWhole_114 h (fun v29 _ h => ?_)
          refine J_lmul hC dX2_expandWhole_115 ?_
          refine J_last hC dX2_expandWhole_116 h (fun M30 _ h => ?_)
          refine J_inc (j := 1) (k := 1) (lv' := [(1, .int (x1 + 1)), (0, rf x0), (2, .int x23)]) hC dX2_expandWhole_117 (by decide) rfl (by decide) rfl ?_
          refine J_goto (tgt := 30) hC dX2_expandWhole_120 (by decide) ?_
          refine J_sub [1, 0] rfl ?_
          exact ih M30 (x1 + 1) h
set_option maxHeartbeats 4000000 in
set_option maxRecDepth 100000 in
theorem cX2_expandWhole_ok (M : Mem) (a0 : Option Nat) (r0 : Mem) (h : fX2_expandWhole M a0 = some r0) : ∀ l : Launch, l.stackTraces = false → Con false l yX2_expandWhole cX2_expandWhole 3 none rm_X2_expandWhole [rf a0] M (r0, Sum.inr none) := by
  intro l hst
  refine Con.enter hst (own := RX2) (by decide +kernel) rfl (by exact Nat.le_of_ble_eq_true rfl) (lv0 := [(0, rf a0)]) (rfl) (fun C hC hin => ?_)
  unfold fX2_expandWhole at h
  refine J_iconst (v := 0) hC dX2_expandWhole_0 (by decide) ?_
  refine J_istore_n (i := 1) (lv' := [(1, .int 0), (0, rf a0)]) rfl hC dX2_expandWhole_1 (by decide) rfl ?_
  refine J_sub [1, 0] rfl ?_
  refine tX2_expandWhole_2 a0 hC _ (fun M4 x5 h => ?_) FU M 0 h
  · refine J_aload_n (j := 0) hC dX2_expandWhole_21 rfl ?_
    refine J_g2_7 hC k_X2_38 dX2_expandWhole_22 h (fun v6 _ h => ?_)
    refine J_iconst (v := 0) hC dX2_expandWhole_25 (by decide) ?_
    refine J_lconst (v := 1) hC dX2_expandWhole_26 (by decide) ?_
    refine J_last hC dX2_expandWhole_27 h (fun M7 _ h => ?_)
    refine J_iconst (v := 0) hC dX2_expandWhole_28 (by decide) ?_
    refine J_istore_n (i := 1) (lv' := [(1, .int 0), (0, rf a0)]) rfl hC dX2_expandWhole_29 (by decide) rfl ?_
    refine J_sub [1, 0] rfl ?_
    refine tX2_expandWhole_30 a0 hC _ (fun M31 x32 h => ?_) FU M7 0 h
    · exact J_vret hC dX2_expandWhole_123 (by have h9 := Option.some.inj h; subst h9; rfl) (Nat.le_of_ble_eq_true rfl) (Nat.le_of_ble_eq_true rfl)
abbrev rm_X2_signOf : Room := { frames := 0, cells := 0, slots := 0, locals := 0 }

set_option maxHeartbeats 4000000 in
set_option maxRecDepth 100000 in
theorem cX2_signOf_ok (M : Mem) (a0 : Int64) (r0 : Int32) (h : fX2_signOf M a0 = some r0) : ∀ l : Launch, l.stackTraces = false → Con false l yX2_signOf cX2_signOf 2 (some .int) rm_X2_signOf [.long a0] M (M, Sum.inr (some (Value.int r0))) := by
  intro l hst
  refine Con.enter hst (own := RX2) (by decide +kernel) rfl (by exact Nat.le_of_ble_eq_true rfl) (lv0 := [(0, .long a0)]) (rfl) (fun C hC hin => ?_)
  unfold fX2_signOf at h
  refine J_lload_n (j := 0) hC dX2_signOf_0 rfl ?_
  refine J_lconst (v := 0) hC dX2_signOf_1 (by decide) ?_
  refine J_lcmp hC dX2_signOf_2 ?_
  have hj : ∀ (z1 : Int32), z1 = (if (lg_cmp a0 0) ≤ 0 then (if 0 ≤ (lg_cmp a0 0) then 0 else (-1)) else 1) → J C 0 0 M 21 [(0, .long a0)] [.int z1] := by
    intro z1 ez1
    subst ez1
    exact J_iret hC dX2_signOf_21 (by have h9 := Option.some.inj h; subst h9; rfl) (Nat.le_of_ble_eq_true rfl) (Nat.le_of_ble_eq_true rfl)
  refine J_if_le (tgt := 10) hC dX2_signOf_3 (by decide) (fun c2 => ?_) (fun c2 => ?_)
  · refine J_lload_n (j := 0) hC dX2_signOf_10 rfl ?_
    refine J_lconst (v := 0) hC dX2_signOf_11 (by decide) ?_
    refine J_lcmp hC dX2_signOf_12 ?_
    refine J_if_ge (tgt := 20) hC dX2_signOf_13 (by decide) (fun c3 => ?_) (fun c3 => ?_)
    · refine J_iconst (v := 0) hC dX2_signOf_20 (by decide) ?_
      refine J_sub [0] rfl ?_
      exact hj _ ((if_pos c2).trans (if_pos c3)).symm
    · refine J_iconst (v := (-1)) hC dX2_signOf_16 (by decide) ?_
      refine J_goto (tgt := 21) hC dX2_signOf_17 (by decide) ?_
      refine J_sub [0] rfl ?_
      exact hj _ ((if_pos c2).trans (if_neg c3)).symm
  · refine J_iconst (v := 1) hC dX2_signOf_6 (by decide) ?_
    refine J_goto (tgt := 21) hC dX2_signOf_7 (by decide) ?_
    refine J_sub [0] rfl ?_
    exact hj _ (if_neg c2).symm
abbrev rm_X2_lower : Room := { frames := 3, cells := 0, slots := 0, locals := 68 }

set_option maxHeartbeats 4000000 in
set_option maxRecDepth 100000 in
theorem tX2_lower_24 {C : JC} {r0 : Mem × Int32} (x0 : Option Nat) (x1 : Int32) (x2 : Option Nat) (hC : Ok C false cX2_lower 4 rm_X2_lower (some .int) RX2 (r0.1, Sum.inr (some (Value.int r0.2))))  (k48 : Mem → Int32 → Option (Mem × Int32)) (hk48 : ∀ (M : Mem) (x3 : Int32), k48 M x3 = some r0 → J C 0 0 M 48 [(0, rf x0), (1, .int x1), (2, rf x2), (3, .int x3)] []) : ∀ (n : Nat) (M : Mem) (x3 : Int32), fX2_lower_24 x0 x1 x2 k48 n M x3 = some r0 → J C 0 0 M 24 [(0, rf x0), (1, .int x1), (2, rf x2), (3, .int x3)] [] := by
  intro n
  induction n with
  | zero => intro M x3 h; have h : none = some r0 := h; cases h
  | succ n ih =>
    intro M x3 h
    rw [fX2_lower_24] at h
    refine J_iload_n (j := 3) hC dX2_lower_24 rfl ?_
    refine J_bipush (v := 9) hC dX2_lower_25 (by decide) ?_
    refine J_icmp_ge (tgt := 48) hC dX2_lower_27 (by decide) (fun c7 => ?_) (fun c7 => ?_)
    · have h := ite_t c7 h
      refine J_sub [0, 1, 2, 3] rfl ?_
      exact hk48 M x3 h
    · have h := ite_f c7 h
      refine J_aload_n (j := 2) hC dX2_lower_30 rfl ?_
      refine J_iload_n (j := 3) hC dX2_lower_31 rfl ?_
      refine J_aload_n (j := 0) hC dX2_lower_32 rfl ?_
      refine J_g2_7 hC k_X2_38 dX2_lower_33 h (fun v8 _ h => ?_)
      refine J_iload_n (j := 3) hC dX2_lower_36 rfl ?_
      refine J_lald hC dX2_lower_37 h (fun v9 _ h => ?_)
      refine bnd_c h (fun w10 hw h => ?_)
      refine J_callS (As := [.long v9]) (M' := M) (rv := some (Value.int w10)) (st := [.int x3, rf x2]) hC (fun l hl => cX2_signOf_ok M v9 _ hw l hl) sm_X2_signOf k_X2_116 rfl ⟨Nat.le_of_ble_eq_true rfl, Nat.le_of_ble_eq_true rfl⟩ (Nat.le_of_ble_eq_true rfl) ⟨Nat.le_of_ble_eq_true rfl, Nat.le_of_ble_eq_true rfl⟩ dX2_lower_38 rfl ?_
      refine J_iast hC dX2_lower_41 h (fun M11 _ h => ?_)
      refine J_inc (j := 3) (k := 1) (lv' := [(3, .int (x3 + 1)), (0, rf x0), (1, .int x1), (2, rf x2)]) hC dX2_lower_42 (by decide) rfl (by decide) rfl ?_
      refine J_goto (tgt := 24) hC dX2_lower_45 (by decide) ?_
      refine J_sub [1, 2, 3, 0] rfl ?_
      exact ih M11 (x3 + 1) h
set_option maxHeartbeats 4000000 in
set_option maxRecDepth 100000 in
theorem cX2_lower_ok (M : Mem) (a0 : Option Nat) (a1 : Int32) (r0 : Mem × Int32) (h : fX2_lower M a0 a1 = some r0) : ∀ l : Launch, l.stackTraces = false → Con false l yX2_lower cX2_lower 4 (some .int) rm_X2_lower [rf a0, .int a1] M (r0.1, Sum.inr (some (Value.int r0.2))) := by
  intro l hst
  refine Con.enter hst (own := RX2) (by decide +kernel) rfl (by exact Nat.le_of_ble_eq_true rfl) (lv0 := [(0, rf a0), (1, .int a1)]) (rfl) (fun C hC hin => ?_)
  unfold fX2_lower at h
  refine J_iload_n (j := 1) hC dX2_lower_0 rfl ?_
  refine bnd_c h (fun w1 hw h => ?_)
  refine J_callS (As := [.int a1]) (M' := M) (rv := none) (st := []) hC (fun l hl => cX2_checkNumber_ok M a1 _ hw l hl) sm_X2_checkNumber k_X2_56 rfl ⟨Nat.le_of_ble_eq_true rfl, Nat.le_of_ble_eq_true rfl⟩ (Nat.zero_le _) ⟨Nat.le_of_ble_eq_true rfl, Nat.le_of_ble_eq_true rfl⟩ dX2_lower_1 rfl ?_
  refine J_aload_n (j := 0) hC dX2_lower_4 rfl ?_
  refine ck_c h (fun ho h => ?_)
  refine bnd_c h (fun w2 hw h => ?_)
  refine J_callV (As := []) (M' := w2) (rv := none) (st := []) hC (fun l hl => cX2_save_ok M a0 _ hw l hl) vm_X2_save k_X2_66 ho ⟨rfl, rfl⟩ rfl ⟨Nat.le_of_ble_eq_true rfl, Nat.le_of_ble_eq_true rfl⟩ (Nat.zero_le _) ⟨Nat.le_of_ble_eq_true rfl, Nat.le_of_ble_eq_true rfl⟩ dX2_lower_5 rfl ?_
  refine J_aload_n (j := 0) hC dX2_lower_8 rfl ?_
  refine ck_c h (fun ho h => ?_)
  refine bnd_c h (fun w3 hw h => ?_)
  refine J_callV (As := []) (M' := w3) (rv := none) (st := []) hC (fun l hl => cX2_expandWhole_ok w2 a0 _ hw l hl) vm_X2_expandWhole k_X2_113 ho ⟨rfl, rfl⟩ rfl ⟨Nat.le_of_ble_eq_true rfl, Nat.le_of_ble_eq_true rfl⟩ (Nat.zero_le _) ⟨Nat.le_of_ble_eq_true rfl, Nat.le_of_ble_eq_true rfl⟩ dX2_lower_9 rfl ?_
  refine J_aload_n (j := 0) hC dX2_lower_12 rfl ?_
  refine J_g2_0 hC k_X2_12 dX2_lower_13 h (fun v4 _ h => ?_)
  refine J_g1_0 hC k_X2_69 dX2_lower_16 h (fun v5 _ h => ?_)
  refine J_iload_n (j := 1) hC dX2_lower_19 rfl ?_
  refine J_aald9 hC dX2_lower_20 h (fun v6 _ h => ?_)
  refine J_astore_n (i := 2) (lv' := [(2, rf v6), (0, rf a0), (1, .int a1)]) rfl hC dX2_lower_21 (by decide) rfl ?_
  refine J_iconst (v := 0) hC dX2_lower_22 (by decide) ?_
  refine J_istore_n (i := 3) (lv' := [(3, .int 0), (2, rf v6), (0, rf a0), (1, .int a1)]) rfl hC dX2_lower_23 (by decide) rfl ?_
  refine J_sub [2, 3, 1, 0] rfl ?_
  refine tX2_lower_24 a0 a1 v6 hC _ (fun M12 x13 h => ?_) FU w3 0 h
  · refine J_aload_n (j := 2) hC dX2_lower_48 rfl ?_
    refine bnd_c h (fun w14 hw h => ?_)
    refine J_callS (As := [rf v6]) (M' := M12) (rv := some (Value.int w14)) (st := []) hC (fun l hl => cX2_degreeOf_ok M12 v6 _ hw l hl) sm_X2_degreeOf k_X2_80 rfl ⟨Nat.le_of_ble_eq_true rfl, Nat.le_of_ble_eq_true rfl⟩ (Nat.zero_le _) ⟨Nat.le_of_ble_eq_true rfl, Nat.le_of_ble_eq_true rfl⟩ dX2_lower_49 rfl ?_
    exact J_iret hC dX2_lower_52 (by have h9 := Option.some.inj h; subst h9; rfl) (Nat.le_of_ble_eq_true rfl) (Nat.le_of_ble_eq_true rfl)
abbrev rm_X2_checkSlot : Room := { frames := 0, cells := 0, slots := 0, locals := 0 }

set_option maxHeartbeats 4000000 in
set_option maxRecDepth 100000 in
theorem cX2_checkSlot_ok (M : Mem) (a0 : Int32) (r0 : Unit) (h : fX2_checkSlot M a0 = some r0) : ∀ l : Launch, l.stackTraces = false → Con false l yX2_checkSlot cX2_checkSlot 1 none rm_X2_checkSlot [.int a0] M (M, Sum.inr none) := by
  intro l hst
  refine Con.enter hst (own := RX2) (by decide +kernel) rfl (by exact Nat.le_of_ble_eq_true rfl) (lv0 := [(0, .int a0)]) (rfl) (fun C hC hin => ?_)
  unfold fX2_checkSlot at h
  refine J_iload_n (j := 0) hC dX2_checkSlot_0 rfl ?_
  refine J_if_lt (tgt := 9) hC dX2_checkSlot_1 (by decide) (fun c1 => ?_) (fun c1 => ?_)
  · have h := ite_t c1 h
    cases h
  · have h := ite_f c1 h
    refine J_iload_n (j := 0) hC dX2_checkSlot_4 rfl ?_
    refine J_iconst (v := 2) hC dX2_checkSlot_5 (by decide) ?_
    refine J_icmp_lt (tgt := 19) hC dX2_checkSlot_6 (by decide) (fun c2 => ?_) (fun c2 => ?_)
    · have h := ite_t c2 h
      exact J_vret hC dX2_checkSlot_19 (by have h9 := Option.some.inj h; subst h9; rfl) (Nat.le_of_ble_eq_true rfl) (Nat.le_of_ble_eq_true rfl)
    · have h := ite_f c2 h
      cases h
abbrev rm_X2_degreesTogether : Room := { frames := 1, cells := 0, slots := 0, locals := 21 }

set_option maxHeartbeats 4000000 in
set_option maxRecDepth 100000 in
theorem tX2_degreesTogether_4 {C : JC} {r0 : Int32} (M : Mem) (x0 : Option Nat) (hC : Ok C false cX2_degreesTogether 3 rm_X2_degreesTogether (some .int) RX2 (M, Sum.inr (some (Value.int r0))))  (k30 : Int32 → Int32 → Option (Int32)) (hk30 : ∀ (x1 : Int32) (x2 : Int32), k30 x1 x2 = some r0 → J C 0 0 M 30 [(0, rf x0), (1, .int x1), (2, .int x2)] []) : ∀ (n : Nat) (x1 : Int32) (x2 : Int32), fX2_degreesTogether_4 M x0 k30 n x1 x2 = some r0 → J C 0 0 M 4 [(0, rf x0), (1, .int x1), (2, .int x2)] [] := by
  intro n
  induction n with
  | zero => intro x1 x2 h; have h : none = some r0 := h; cases h
  | succ n ih =>
    intro x1 x2 h
    rw [fX2_degreesTogether_4] at h
    refine J_iload_n (j := 2) hC dX2_degreesTogether_4 rfl ?_
    refine J_iconst (v := 5) hC dX2_degreesTogether_5 (by decide) ?_
    refine J_icmp_ge (tgt := 30) hC dX2_degreesTogether_6 (by decide) (fun c1 => ?_) (fun c1 => ?_)
    · have h := ite_t c1 h
      refine J_sub [0, 1, 2] rfl ?_
      exact hk30 x1 x2 h
    · have h := ite_f c1 h
      refine J_iload_n (j := 1) hC dX2_degreesTogether_9 rfl ?_
      refine J_aload_n (j := 0) hC dX2_degreesTogether_10 rfl ?_
      refine J_g2_0 hC k_X2_12 dX2_degreesTogether_11 h (fun v2 _ h => ?_)
      refine J_g1_0 hC k_X2_69 dX2_degreesTogether_14 h (fun v3 _ h => ?_)
      refine J_iload_n (j := 2) hC dX2_degreesTogether_17 rfl ?_
      refine J_aald9 hC dX2_degreesTogether_18 h (fun v4 _ h => ?_)
      refine bnd_c h (fun w5 hw h => ?_)
      refine J_callS (As := [rf v4]) (M' := M) (rv := some (Value.int w5)) (st := [.int x1]) hC (fun l hl => cX2_degreeOf_ok M v4 _ hw l hl) sm_X2_degreeOf k_X2_80 rfl ⟨Nat.le_of_ble_eq_true rfl, Nat.le_of_ble_eq_true rfl⟩ (Nat.le_of_ble_eq_true rfl) ⟨Nat.le_of_ble_eq_true rfl, Nat.le_of_ble_eq_true rfl⟩ dX2_degreesTogether_19 rfl ?_
      refine J_iadd hC dX2_degreesTogether_22 ?_
      refine J_istore_n (i := 1) (lv' := [(1, .int (x1 + w5)), (0, rf x0), (2, .int x2)]) rfl hC dX2_degreesTogether_23 (by decide) rfl ?_
      refine J_inc (j := 2) (k := 1) (lv' := [(2, .int (x2 + 1)), (1, .int (x1 + w5)), (0, rf x0)]) hC dX2_degreesTogether_24 (by decide) rfl (by decide) rfl ?_
      refine J_goto (tgt := 4) hC dX2_degreesTogether_27 (by decide) ?_
      refine J_sub [2, 1, 0] rfl ?_
      exact ih (x1 + w5) (x2 + 1) h
set_option maxHeartbeats 4000000 in
set_option maxRecDepth 100000 in
theorem cX2_degreesTogether_ok (M : Mem) (a0 : Option Nat) (r0 : Int32) (h : fX2_degreesTogether M a0 = some r0) : ∀ l : Launch, l.stackTraces = false → Con false l yX2_degreesTogether cX2_degreesTogether 3 (some .int) rm_X2_degreesTogether [rf a0] M (M, Sum.inr (some (Value.int r0))) := by
  intro l hst
  refine Con.enter hst (own := RX2) (by decide +kernel) rfl (by exact Nat.le_of_ble_eq_true rfl) (lv0 := [(0, rf a0)]) (rfl) (fun C hC hin => ?_)
  unfold fX2_degreesTogether at h
  refine J_iconst (v := 0) hC dX2_degreesTogether_0 (by decide) ?_
  refine J_istore_n (i := 1) (lv' := [(1, .int 0), (0, rf a0)]) rfl hC dX2_degreesTogether_1 (by decide) rfl ?_
  refine J_iconst (v := 0) hC dX2_degreesTogether_2 (by decide) ?_
  refine J_istore_n (i := 2) (lv' := [(2, .int 0), (1, .int 0), (0, rf a0)]) rfl hC dX2_degreesTogether_3 (by decide) rfl ?_
  refine J_sub [2, 1, 0] rfl ?_
  refine tX2_degreesTogether_4 M a0 hC _ (fun x6 x7 h => ?_) FU 0 0 h
  · refine J_iload_n (j := 1) hC dX2_degreesTogether_30 rfl ?_
    exact J_iret hC dX2_degreesTogether_31 (by have h9 := Option.some.inj h; subst h9; rfl) (Nat.le_of_ble_eq_true rfl) (Nat.le_of_ble_eq_true rfl)
abbrev rm_X2_keep : Room := { frames := 2, cells := 0, slots := 0, locals := 48 }

set_option maxHeartbeats 4000000 in
set_option maxRecDepth 100000 in
theorem cX2_keep_ok (M : Mem) (a0 : Option Nat) (a1 : Int32) (r0 : Mem × Int32) (h : fX2_keep M a0 a1 = some r0) : ∀ l : Launch, l.stackTraces = false → Con false l yX2_keep cX2_keep 2 (some .int) rm_X2_keep [rf a0, .int a1] M (r0.1, Sum.inr (some (Value.int r0.2))) := by
  intro l hst
  refine Con.enter hst (own := RX2) (by decide +kernel) rfl (by exact Nat.le_of_ble_eq_true rfl) (lv0 := [(0, rf a0), (1, .int a1)]) (rfl) (fun C hC hin => ?_)
  unfold fX2_keep at h
  refine J_iload_n (j := 1) hC dX2_keep_0 rfl ?_
  refine bnd_c h (fun w1 hw h => ?_)
  refine J_callS (As := [.int a1]) (M' := M) (rv := none) (st := []) hC (fun l hl => cX2_checkSlot_ok M a1 _ hw l hl) sm_X2_checkSlot k_X2_137 rfl ⟨Nat.le_of_ble_eq_true rfl, Nat.le_of_ble_eq_true rfl⟩ (Nat.zero_le _) ⟨Nat.le_of_ble_eq_true rfl, Nat.le_of_ble_eq_true rfl⟩ dX2_keep_1 rfl ?_
  refine J_aload_n (j := 0) hC dX2_keep_4 rfl ?_
  refine J_g2_3 hC k_X2_24 dX2_keep_5 h (fun v2 _ h => ?_)
  refine J_iload_n (j := 1) hC dX2_keep_8 rfl ?_
  refine J_aald8 hC dX2_keep_9 h (fun v3 _ h => ?_)
  refine J_aload_n (j := 0) hC dX2_keep_10 rfl ?_
  refine J_g2_0 hC k_X2_12 dX2_keep_11 h (fun v4 _ h => ?_)
  refine ck_c h (fun ho h => ?_)
  refine bnd_c h (fun w5 hw h => ?_)
  refine J_callV (As := [rf v4]) (M' := w5) (rv := none) (st := []) hC (fun l hl => cX1_takeOver_ok M v3 v4 _ hw l hl) vm_X1_takeOver k_X2_140 ho ⟨rfl, rfl⟩ rfl ⟨Nat.le_of_ble_eq_true rfl, Nat.le_of_ble_eq_true rfl⟩ (Nat.zero_le _) ⟨Nat.le_of_ble_eq_true rfl, Nat.le_of_ble_eq_true rfl⟩ dX2_keep_14 rfl ?_
  refine J_aload_n (j := 0) hC dX2_keep_17 rfl ?_
  refine J_g2_4 hC k_X2_27 dX2_keep_18 h (fun v6 _ h => ?_)
  refine J_iload_n (j := 1) hC dX2_keep_21 rfl ?_
  refine J_iconst (v := 1) hC dX2_keep_22 (by decide) ?_
  refine J_zast hC dX2_keep_23 h (fun M7 _ h => ?_)
  refine J_aload_n (j := 0) hC dX2_keep_24 rfl ?_
  refine ck_c h (fun ho h => ?_)
  refine bnd_c h (fun w8 hw h => ?_)
  refine J_callV (As := []) (M' := M7) (rv := some (Value.int w8)) (st := []) hC (fun l hl => cX2_degreesTogether_ok M7 a0 _ hw l hl) vm_X2_degreesTogether k_X2_144 ho ⟨rfl, rfl⟩ rfl ⟨Nat.le_of_ble_eq_true rfl, Nat.le_of_ble_eq_true rfl⟩ (Nat.zero_le _) ⟨Nat.le_of_ble_eq_true rfl, Nat.le_of_ble_eq_true rfl⟩ dX2_keep_25 rfl ?_
  exact J_iret hC dX2_keep_28 (by have h9 := Option.some.inj h; subst h9; rfl) (Nat.le_of_ble_eq_true rfl) (Nat.le_of_ble_eq_true rfl)
abbrev rm_X2_goBack : Room := { frames := 3, cells := 0, slots := 0, locals := 68 }

set_option maxHeartbeats 4000000 in
set_option maxRecDepth 100000 in
theorem cX2_goBack_ok (M : Mem) (a0 : Option Nat) (a1 : Int32) (r0 : Mem × Int32) (h : fX2_goBack M a0 a1 = some r0) : ∀ l : Launch, l.stackTraces = false → Con false l yX2_goBack cX2_goBack 2 (some .int) rm_X2_goBack [rf a0, .int a1] M (r0.1, Sum.inr (some (Value.int r0.2))) := by
  intro l hst
  refine Con.enter hst (own := RX2) (by decide +kernel) rfl (by exact Nat.le_of_ble_eq_true rfl) (lv0 := [(0, rf a0), (1, .int a1)]) (rfl) (fun C hC hin => ?_)
  unfold fX2_goBack at h
  refine J_iload_n (j := 1) hC dX2_goBack_0 rfl ?_
  refine bnd_c h (fun w1 hw h => ?_)
  refine J_callS (As := [.int a1]) (M' := M) (rv := none) (st := []) hC (fun l hl => cX2_checkSlot_ok M a1 _ hw l hl) sm_X2_checkSlot k_X2_137 rfl ⟨Nat.le_of_ble_eq_true rfl, Nat.le_of_ble_eq_true rfl⟩ (Nat.zero_le _) ⟨Nat.le_of_ble_eq_true rfl, Nat.le_of_ble_eq_true rfl⟩ dX2_goBack_1 rfl ?_
  refine J_aload_n (j := 0) hC dX2_goBack_4 rfl ?_
  refine J_g2_4 hC k_X2_27 dX2_goBack_5 h (fun v2 _ h => ?_)
  refine J_iload_n (j := 1) hC dX2_goBack_8 rfl ?_
  refine J_zald hC dX2_goBack_9 h (fun v3 _ h => ?_)
  refine J_if_ne (tgt := 23) hC dX2_goBack_10 (by decide) (fun c4 => ?_) (fun c4 => ?_)
  · have h := ite_f c4 h
    refine J_aload_n (j := 0) hC dX2_goBack_23 rfl ?_
    refine ck_c h (fun ho h => ?_)
    refine bnd_c h (fun w5 hw h => ?_)
    refine J_callV (As := []) (M' := w5) (rv := none) (st := []) hC (fun l hl => cX2_save_ok M a0 _ hw l hl) vm_X2_save k_X2_66 ho ⟨rfl, rfl⟩ rfl ⟨Nat.le_of_ble_eq_true rfl, Nat.le_of_ble_eq_true rfl⟩ (Nat.zero_le _) ⟨Nat.le_of_ble_eq_true rfl, Nat.le_of_ble_eq_true rfl⟩ dX2_goBack_24 rfl ?_
    refine J_aload_n (j := 0) hC dX2_goBack_27 rfl ?_
    refine J_g2_0 hC k_X2_12 dX2_goBack_28 h (fun v6 _ h => ?_)
    refine J_aload_n (j := 0) hC dX2_goBack_31 rfl ?_
    refine J_g2_3 hC k_X2_24 dX2_goBack_32 h (fun v7 _ h => ?_)
    refine J_iload_n (j := 1) hC dX2_goBack_35 rfl ?_
    refine J_aald8 hC dX2_goBack_36 h (fun v8 _ h => ?_)
    refine ck_c h (fun ho h => ?_)
    refine bnd_c h (fun w9 hw h => ?_)
    refine J_callV (As := [rf v8]) (M' := w9) (rv := none) (st := []) hC (fun l hl => cX1_takeOver_ok w5 v6 v8 _ hw l hl) vm_X1_takeOver k_X2_140 ho ⟨rfl, rfl⟩ rfl ⟨Nat.le_of_ble_eq_true rfl, Nat.le_of_ble_eq_true rfl⟩ (Nat.zero_le _) ⟨Nat.le_of_ble_eq_true rfl, Nat.le_of_ble_eq_true rfl⟩ dX2_goBack_37 rfl ?_
    refine J_aload_n (j := 0) hC dX2_goBack_40 rfl ?_
    refine ck_c h (fun ho h => ?_)
    refine bnd_c h (fun w10 hw h => ?_)
    refine J_callV (As := []) (M' := w9) (rv := some (Value.int w10)) (st := []) hC (fun l hl => cX2_degreesTogether_ok w9 a0 _ hw l hl) vm_X2_degreesTogether k_X2_144 ho ⟨rfl, rfl⟩ rfl ⟨Nat.le_of_ble_eq_true rfl, Nat.le_of_ble_eq_true rfl⟩ (Nat.zero_le _) ⟨Nat.le_of_ble_eq_true rfl, Nat.le_of_ble_eq_true rfl⟩ dX2_goBack_41 rfl ?_
    exact J_iret hC dX2_goBack_44 (by have h9 := Option.some.inj h; subst h9; rfl) (Nat.le_of_ble_eq_true rfl) (Nat.le_of_ble_eq_true rfl)
  · have h := ite_t c4 h
    cases h
abbrev rm_X2_undo : Room := { frames := 2, cells := 0, slots := 0, locals := 48 }

set_option maxHeartbeats 4000000 in
set_option maxRecDepth 100000 in
theorem cX2_undo_ok (M : Mem) (a0 : Option Nat) (r0 : Mem × Int32) (h : fX2_undo M a0 = some r0) : ∀ l : Launch, l.stackTraces = false → Con false l yX2_undo cX2_undo 1 (some .int) rm_X2_undo [rf a0] M (r0.1, Sum.inr (some (Value.int r0.2))) := by
  intro l hst
  refine Con.enter hst (own := RX2) (by decide +kernel) rfl (by exact Nat.le_of_ble_eq_true rfl) (lv0 := [(0, rf a0)]) (rfl) (fun C hC hin => ?_)
  unfold fX2_undo at h
  refine J_aload_n (j := 0) hC dX2_undo_0 rfl ?_
  refine J_g2_2 hC k_X2_20 dX2_undo_1 h (fun v1 _ h => ?_)
  refine J_if_gt (tgt := 17) hC dX2_undo_4 (by decide) (fun c2 => ?_) (fun c2 => ?_)
  · have h := ite_t c2 h
    refine J_aload_n (j := 0) hC dX2_undo_17 rfl ?_
    refine J_dup hC dX2_undo_18 rfl ?_
    refine J_g2_2 hC k_X2_20 dX2_undo_19 h (fun v3 _ h => ?_)
    refine J_iconst (v := 1) hC dX2_undo_22 (by decide) ?_
    refine J_isub hC dX2_undo_23 ?_
    refine J_p2_2 hC k_X2_20 dX2_undo_24 h (fun M4 _ h => ?_)
    refine J_aload_n (j := 0) hC dX2_undo_27 rfl ?_
    refine J_g2_0 hC k_X2_12 dX2_undo_28 h (fun v5 _ h => ?_)
    refine J_aload_n (j := 0) hC dX2_undo_31 rfl ?_
    refine J_g2_1 hC k_X2_16 dX2_undo_32 h (fun v6 _ h => ?_)
    refine J_aload_n (j := 0) hC dX2_undo_35 rfl ?_
    refine J_g2_2 hC k_X2_20 dX2_undo_36 h (fun v7 _ h => ?_)
    refine J_aald8 hC dX2_undo_39 h (fun v8 _ h => ?_)
    refine ck_c h (fun ho h => ?_)
    refine bnd_c h (fun w9 hw h => ?_)
    refine J_callV (As := [rf v8]) (M' := w9) (rv := none) (st := []) hC (fun l hl => cX1_takeOver_ok M4 v5 v8 _ hw l hl) vm_X1_takeOver k_X2_140 ho ⟨rfl, rfl⟩ rfl ⟨Nat.le_of_ble_eq_true rfl, Nat.le_of_ble_eq_true rfl⟩ (Nat.zero_le _) ⟨Nat.le_of_ble_eq_true rfl, Nat.le_of_ble_eq_true rfl⟩ dX2_undo_40 rfl ?_
    refine J_aload_n (j := 0) hC dX2_undo_43 rfl ?_
    refine J_g2_2 hC k_X2_20 dX2_undo_44 h (fun v10 _ h => ?_)
    exact J_iret hC dX2_undo_47 (by have h9 := Option.some.inj h; subst h9; rfl) (Nat.le_of_ble_eq_true rfl) (Nat.le_of_ble_eq_true rfl)
  · have h := ite_f c2 h
    cases h
abbrev rm_X2_sign : Room := { frames := 1, cells := 0, slots := 0, locals := 20 }

set_option maxHeartbeats 4000000 in
set_option maxRecDepth 100000 in
theorem cX2_sign_ok (M : Mem) (a0 : Option Nat) (a1 : Int32) (a2 : Int32) (r0 : Int32) (h : fX2_sign M a0 a1 a2 = some r0) : ∀ l : Launch, l.stackTraces = false → Con false l yX2_sign cX2_sign 3 (some .int) rm_X2_sign [rf a0, .int a1, .int a2] M (M, Sum.inr (some (Value.int r0))) := by
  intro l hst
  refine Con.enter hst (own := RX2) (by decide +kernel) rfl (by exact Nat.le_of_ble_eq_true rfl) (lv0 := [(0, rf a0), (1, .int a1), (2, .int a2)]) (rfl) (fun C hC hin => ?_)
  unfold fX2_sign at h
  refine J_iload_n (j := 1) hC dX2_sign_0 rfl ?_
  refine bnd_c h (fun w1 hw h => ?_)
  refine J_callS (As := [.int a1]) (M' := M) (rv := none) (st := []) hC (fun l hl => cX2_checkNumber_ok M a1 _ hw l hl) sm_X2_checkNumber k_X2_56 rfl ⟨Nat.le_of_ble_eq_true rfl, Nat.le_of_ble_eq_true rfl⟩ (Nat.zero_le _) ⟨Nat.le_of_ble_eq_true rfl, Nat.le_of_ble_eq_true rfl⟩ dX2_sign_1 rfl ?_
  refine J_iload_n (j := 2) hC dX2_sign_4 rfl ?_
  refine bnd_c h (fun w2 hw h => ?_)
  refine J_callS (As := [.int a2]) (M' := M) (rv := none) (st := []) hC (fun l hl => cX2_checkPower_ok M a2 _ hw l hl) sm_X2_checkPower k_X2_60 rfl ⟨Nat.le_of_ble_eq_true rfl, Nat.le_of_ble_eq_true rfl⟩ (Nat.zero_le _) ⟨Nat.le_of_ble_eq_true rfl, Nat.le_of_ble_eq_true rfl⟩ dX2_sign_5 rfl ?_
  refine J_aload_n (j := 0) hC dX2_sign_8 rfl ?_
  refine J_g2_0 hC k_X2_12 dX2_sign_9 h (fun v3 _ h => ?_)
  refine J_g1_0 hC k_X2_69 dX2_sign_12 h (fun v4 _ h => ?_)
  refine J_iload_n (j := 1) hC dX2_sign_15 rfl ?_
  refine J_aald9 hC dX2_sign_16 h (fun v5 _ h => ?_)
  refine J_iload_n (j := 2) hC dX2_sign_17 rfl ?_
  refine J_iald hC dX2_sign_18 h (fun v6 _ h => ?_)
  exact J_iret hC dX2_sign_19 (by have h9 := Option.some.inj h; subst h9; rfl) (Nat.le_of_ble_eq_true rfl) (Nat.le_of_ble_eq_true rfl)
abbrev rm_X2_checkWhat : Room := { frames := 0, cells := 0, slots := 0, locals := 0 }

set_option maxHeartbeats 4000000 in
set_option maxRecDepth 100000 in
theorem cX2_checkWhat_ok (M : Mem) (a0 : Int32) (a1 : Int32) (r0 : Unit) (h : fX2_checkWhat M a0 a1 = some r0) : ∀ l : Launch, l.stackTraces = false → Con false l yX2_checkWhat cX2_checkWhat 2 none rm_X2_checkWhat [.int a0, .int a1] M (M, Sum.inr none) := by
  intro l hst
  refine Con.enter hst (own := RX2) (by decide +kernel) rfl (by exact Nat.le_of_ble_eq_true rfl) (lv0 := [(0, .int a0), (1, .int a1)]) (rfl) (fun C hC hin => ?_)
  unfold fX2_checkWhat at h
  refine J_iload_n (j := 0) hC dX2_checkWhat_0 rfl ?_
  refine J_if_lt (tgt := 9) hC dX2_checkWhat_1 (by decide) (fun c1 => ?_) (fun c1 => ?_)
  · have h := ite_t c1 h
    cases h
  · have h := ite_f c1 h
    refine J_iload_n (j := 0) hC dX2_checkWhat_4 rfl ?_
    refine J_iload_n (j := 1) hC dX2_checkWhat_5 rfl ?_
    refine J_icmp_lt (tgt := 19) hC dX2_checkWhat_6 (by decide) (fun c2 => ?_) (fun c2 => ?_)
    · have h := ite_t c2 h
      exact J_vret hC dX2_checkWhat_19 (by have h9 := Option.some.inj h; subst h9; rfl) (Nat.le_of_ble_eq_true rfl) (Nat.le_of_ble_eq_true rfl)
    · have h := ite_f c2 h
      cases h
abbrev rm_X2_powerOf : Room := { frames := 0, cells := 0, slots := 0, locals := 0 }

set_option maxHeartbeats 4000000 in
set_option maxRecDepth 100000 in
theorem cX2_powerOf_ok (M : Mem) (a0 : Int32) (a1 : Int32) (r0 : Int32) (h : fX2_powerOf M a0 a1 = some r0) : ∀ l : Launch, l.stackTraces = false → Con false l yX2_powerOf cX2_powerOf 2 (some .int) rm_X2_powerOf [.int a0, .int a1] M (M, Sum.inr (some (Value.int r0))) := by
  intro l hst
  refine Con.enter hst (own := RX2) (by decide +kernel) rfl (by exact Nat.le_of_ble_eq_true rfl) (lv0 := [(0, .int a0), (1, .int a1)]) (rfl) (fun C hC hin => ?_)
  unfold fX2_powerOf at h
  refine J_iload_n (j := 1) hC dX2_powerOf_0 rfl ?_
  refine J_if_ne (tgt := 6) hC dX2_powerOf_1 (by decide) (fun c1 => ?_) (fun c1 => ?_)
  · have h := ite_f c1 h
    refine J_iload_n (j := 1) hC dX2_powerOf_6 rfl ?_
    refine J_iconst (v := 2) hC dX2_powerOf_7 (by decide) ?_
    refine J_irem hC dX2_powerOf_8 (by decide) ?_
    have hj : ∀ (z2 : Int32), z2 = (if (a1 - a1 / 2 * 2) = 0 then a0 * a0 else a0) → J C 0 0 M 19 [(0, .int a0), (1, .int a1)] [.int z2] := by
      intro z2 ez2
      subst ez2
      exact J_iret hC dX2_powerOf_19 (by have h9 := Option.some.inj h; subst h9; rfl) (Nat.le_of_ble_eq_true rfl) (Nat.le_of_ble_eq_true rfl)
    refine J_if_ne (tgt := 18) hC dX2_powerOf_9 (by decide) (fun c3 => ?_) (fun c3 => ?_)
    · refine J_iload_n (j := 0) hC dX2_powerOf_18 rfl ?_
      refine J_sub [0, 1] rfl ?_
      exact hj _ (if_neg c3).symm
    · refine J_iload_n (j := 0) hC dX2_powerOf_12 rfl ?_
      refine J_iload_n (j := 0) hC dX2_powerOf_13 rfl ?_
      refine J_imul hC dX2_powerOf_14 ?_
      refine J_goto (tgt := 19) hC dX2_powerOf_15 (by decide) ?_
      refine J_sub [0, 1] rfl ?_
      exact hj _ (if_pos c3).symm
  · have h := ite_t c1 h
    refine J_iconst (v := 1) hC dX2_powerOf_4 (by decide) ?_
    exact J_iret hC dX2_powerOf_5 (by have h9 := Option.some.inj h; subst h9; rfl) (Nat.le_of_ble_eq_true rfl) (Nat.le_of_ble_eq_true rfl)
abbrev rm_X2_changesOf : Room := { frames := 1, cells := 0, slots := 0, locals := 21 }

set_option maxHeartbeats 4000000 in
set_option maxRecDepth 100000 in
theorem tX2_changesOf_7 {C : JC} {r0 : Int32} (M : Mem) (x0 : Option Nat) (x1 : Int32) (hC : Ok C false cX2_changesOf 6 rm_X2_changesOf (some .int) RX2 (M, Sum.inr (some (Value.int r0))))  (k54 : Int32 → Int32 → Int32 → Option (Int32)) (hk54 : ∀ (x2 : Int32) (x3 : Int32) (x4 : Int32), k54 x2 x3 x4 = some r0 → J C 0 0 M 54 [(0, rf x0), (1, .int x1), (2, .int x2), (3, .int x3), (4, .int x4)] []) : ∀ (n : Nat) (x2 : Int32) (x3 : Int32) (x4 : Int32), fX2_changesOf_7 M x0 x1 k54 n x2 x3 x4 = some r0 → J C 0 0 M 7 [(0, rf x0), (1, .int x1), (2, .int x2), (3, .int x3), (4, .int x4)] [] := by
  intro n
  induction n with
  | zero => intro x2 x3 x4 h; have h : none = some r0 := h; cases h
  | succ n ih =>
    intro x2 x3 x4 h
    rw [fX2_changesOf_7] at h
    refine J_iload (j := 4) hC dX2_changesOf_7 rfl ?_
    refine J_bipush (v := 9) hC dX2_changesOf_9 (by decide) ?_
    refine J_icmp_ge (tgt := 54) hC dX2_changesOf_11 (by decide) (fun c1 => ?_) (fun c1 => ?_)
    · have h := ite_t c1 h
      refine J_sub [0, 1, 2, 3, 4] rfl ?_
      exact hk54 x2 x3 x4 h
    · have h := ite_f c1 h
      refine J_aload_n (j := 0) hC dX2_changesOf_14 rfl ?_
      refine J_iload (j := 4) hC dX2_changesOf_15 rfl ?_
      refine J_iald hC dX2_changesOf_17 h (fun v2 _ h => ?_)
      refine J_iload_n (j := 1) hC dX2_changesOf_18 rfl ?_
      refine J_iload (j := 4) hC dX2_changesOf_19 rfl ?_
      refine bnd_c h (fun w3 hw h => ?_)
      refine J_callS (As := [.int x1, .int x4]) (M' := M) (rv := some (Value.int w3)) (st := [.int v2]) hC (fun l hl => cX2_powerOf_ok M x1 x4 _ hw l hl) sm_X2_powerOf k_X2_255 rfl ⟨Nat.le_of_ble_eq_true rfl, Nat.le_of_ble_eq_true rfl⟩ (Nat.le_of_ble_eq_true rfl) ⟨Nat.le_of_ble_eq_true rfl, Nat.le_of_ble_eq_true rfl⟩ dX2_changesOf_21 rfl ?_
      refine J_imul hC dX2_changesOf_24 ?_
      refine J_istore (lv' := [(5, .int (v2 * w3)), (0, rf x0), (1, .int x1), (2, .int x2), (3, .int x3), (4, .int x4)]) hC dX2_changesOf_25 (by decide) rfl ?_
      refine J_iload (j := 0) hC dX2_changesOf_27 rfl ?_
      refine J_if_eq (tgt := 48) hC dX2_changesOf_29 (by decide) (fun c4 => ?_) (fun c4 => ?_)
      · have h := ite_t c4 h
        refine J_inc (j := 5) (k := 1) (lv' := [(4, .int (x4 + 1)), (5, .int (v2 * w3)), (0, rf x0), (1, .int x1), (2, .int x2), (3, .int x3)]) hC dX2_changesOf_48 (by decide) rfl (by decide) rfl ?_
        refine J_goto (tgt := 7) hC dX2_changesOf_51 (by decide) ?_
        refine J_sub [2, 3, 4, 5, 0] rfl ?_
        exact ih x2 x3 (x4 + 1) h
      · have h := ite_f c4 h
        refine J_iload_n (j := 4) hC dX2_changesOf_32 rfl ?_
        refine J_if_eq (tgt := 45) hC dX2_changesOf_33 (by decide) (fun c5 => ?_) (fun c5 => ?_)
        · have h := ite_t c5 h
          refine J_iload (j := 0) hC dX2_changesOf_45 rfl ?_
          refine J_istore_n (i := 3) (lv' := [(3, .int (v2 * w3)), (5, .int (v2 * w3)), (0, rf x0), (1, .int x1), (2, .int x2), (4, .int x4)]) rfl hC dX2_changesOf_47 (by decide) rfl ?_
          refine J_inc (j := 5) (k := 1) (lv' := [(4, .int (x4 + 1)), (3, .int (v2 * w3)), (5, .int (v2 * w3)), (0, rf x0), (1, .int x1), (2, .int x2)]) hC dX2_changesOf_48 (by decide) rfl (by decide) rfl ?_
          refine J_goto (tgt := 7) hC dX2_changesOf_51 (by decide) ?_
          refine J_sub [3, 4, 5, 1, 0] rfl ?_
          exact ih x2 (v2 * w3) (x4 + 1) h
        · have h := ite_f c5 h
          refine J_iload (j := 0) hC dX2_changesOf_36 rfl ?_
          refine J_iload_n (j := 4) hC dX2_changesOf_38 rfl ?_
          refine J_icmp_eq (tgt := 45) hC dX2_changesOf_39 (by decide) (fun c6 => ?_) (fun c6 => ?_)
          · have h := ite_t c6 h
            refine J_iload (j := 0) hC dX2_changesOf_45 rfl ?_
            refine J_istore_n (i := 3) (lv' := [(3, .int (v2 * w3)), (5, .int (v2 * w3)), (0, rf x0), (1, .int x1), (2, .int x2), (4, .int x4)]) rfl hC dX2_changesOf_47 (by decide) rfl ?_
            refine J_inc (j := 5) (k := 1) (lv' := [(4, .int (x4 + 1)), (3, .int (v2 * w3)), (5, .int (v2 * w3)), (0, rf x0), (1, .int x1), (2, .int x2)]) hC dX2_changesOf_48 (by decide) rfl (by decide) rfl ?_
            refine J_goto (tgt := 7) hC dX2_changesOf_51 (by decide) ?_
            refine J_sub [3, 4, 5, 1, 0] rfl ?_
            exact ih x2 (v2 * w3) (x4 + 1) h
          · have h := ite_f c6 h
            refine J_inc (j := 3) (k := 1) (lv' := [(2, .int (x2 + 1)), (5, .int (v2 * w3)), (0, rf x0), (1, .int x1), (3, .int x3), (4, .int x4)]) hC dX2_changesOf_42 (by decide) rfl (by decide) rfl ?_
            refine J_iload (j := 1) hC dX2_changesOf_45 rfl ?_
            refine J_istore_n (i := 3) (lv' := [(3, .int (v2 * w3)), (2, .int (x2 + 1)), (5, .int (v2 * w3)), (0, rf x0), (1, .int x1), (4, .int x4)]) rfl hC dX2_changesOf_47 (by decide) rfl ?_
            refine J_inc (j := 5) (k := 1) (lv' := [(4, .int (x4 + 1)), (3, .int (v2 * w3)), (2, .int (x2 + 1)), (5, .int (v2 * w3)), (0, rf x0), (1, .int x1)]) hC dX2_changesOf_48 (by decide) rfl (by decide) rfl ?_
            refine J_goto (tgt := 7) hC dX2_changesOf_51 (by decide) ?_
            refine J_sub [4, 5, 2, 1, 0] rfl ?_
            exact ih (x2 + 1) (v2 * w3) (x4 + 1) h
set_option maxHeartbeats 4000000 in
set_option maxRecDepth 100000 in
theorem cX2_changesOf_ok (M : Mem) (a0 : Option Nat) (a1 : Int32) (r0 : Int32) (h : fX2_changesOf M a0 a1 = some r0) : ∀ l : Launch, l.stackTraces = false → Con false l yX2_changesOf cX2_changesOf 6 (some .int) rm_X2_changesOf [rf a0, .int a1] M (M, Sum.inr (some (Value.int r0))) := by
  intro l hst
  refine Con.enter hst (own := RX2) (by decide +kernel) rfl (by exact Nat.le_of_ble_eq_true rfl) (lv0 := [(0, rf a0), (1, .int a1)]) (rfl) (fun C hC hin => ?_)
  unfold fX2_changesOf at h
  refine J_iconst (v := 0) hC dX2_changesOf_0 (by decide) ?_
  refine J_istore_n (i := 2) (lv' := [(2, .int 0), (0, rf a0), (1, .int a1)]) rfl hC dX2_changesOf_1 (by decide) rfl ?_
  refine J_iconst (v := 0) hC dX2_changesOf_2 (by decide) ?_
  refine J_istore_n (i := 3) (lv' := [(3, .int 0), (2, .int 0), (0, rf a0), (1, .int a1)]) rfl hC dX2_changesOf_3 (by decide) rfl ?_
  refine J_iconst (v := 0) hC dX2_changesOf_4 (by decide) ?_
  refine J_istore (lv' := [(4, .int 0), (3, .int 0), (2, .int 0), (0, rf a0), (1, .int a1)]) hC dX2_changesOf_5 (by decide) rfl ?_
  refine J_sub [3, 4, 2, 1, 0] rfl ?_
  refine tX2_changesOf_7 M a0 a1 hC _ (fun x7 x8 x9 h => ?_) FU 0 0 0 h
  · refine J_iload_n (j := 2) hC dX2_changesOf_54 rfl ?_
    exact J_iret hC dX2_changesOf_55 (by have h9 := Option.some.inj h; subst h9; rfl) (Nat.le_of_ble_eq_true rfl) (Nat.le_of_ble_eq_true rfl)
abbrev rm_X2_of : Room := { frames := 2, cells := 0, slots := 0, locals := 46 }

set_option maxHeartbeats 4000000 in
set_option maxRecDepth 100000 in
theorem cX2_of_ok (M : Mem) (a0 : Option Nat) (a1 : Int32) (a2 : Int32) (r0 : Int32) (h : fX2_of M a0 a1 a2 = some r0) : ∀ l : Launch, l.stackTraces = false → Con false l yX2_of cX2_of 4 (some .int) rm_X2_of [rf a0, .int a1, .int a2] M (M, Sum.inr (some (Value.int r0))) := by
  intro l hst
  refine Con.enter hst (own := RX2) (by decide +kernel) rfl (by exact Nat.le_of_ble_eq_true rfl) (lv0 := [(0, rf a0), (1, .int a1), (2, .int a2)]) (rfl) (fun C hC hin => ?_)
  unfold fX2_of at h
  refine J_iload_n (j := 1) hC dX2_of_0 rfl ?_
  refine bnd_c h (fun w1 hw h => ?_)
  refine J_callS (As := [.int a1]) (M' := M) (rv := none) (st := []) hC (fun l hl => cX2_checkNumber_ok M a1 _ hw l hl) sm_X2_checkNumber k_X2_56 rfl ⟨Nat.le_of_ble_eq_true rfl, Nat.le_of_ble_eq_true rfl⟩ (Nat.zero_le _) ⟨Nat.le_of_ble_eq_true rfl, Nat.le_of_ble_eq_true rfl⟩ dX2_of_1 rfl ?_
  refine J_iload_n (j := 2) hC dX2_of_4 rfl ?_
  refine J_iconst (v := 4) hC dX2_of_5 (by decide) ?_
  refine bnd_c h (fun w2 hw h => ?_)
  refine J_callS (As := [.int a2, .int 4]) (M' := M) (rv := none) (st := []) hC (fun l hl => cX2_checkWhat_ok M a2 4 _ hw l hl) sm_X2_checkWhat k_X2_151 rfl ⟨Nat.le_of_ble_eq_true rfl, Nat.le_of_ble_eq_true rfl⟩ (Nat.zero_le _) ⟨Nat.le_of_ble_eq_true rfl, Nat.le_of_ble_eq_true rfl⟩ dX2_of_6 rfl ?_
  refine J_aload_n (j := 0) hC dX2_of_9 rfl ?_
  refine J_g2_0 hC k_X2_12 dX2_of_10 h (fun v3 _ h => ?_)
  refine J_g1_0 hC k_X2_69 dX2_of_13 h (fun v4 _ h => ?_)
  refine J_iload_n (j := 1) hC dX2_of_16 rfl ?_
  refine J_aald9 hC dX2_of_17 h (fun v5 _ h => ?_)
  refine J_astore_n (i := 3) (lv' := [(3, rf v5), (0, rf a0), (1, .int a1), (2, .int a2)]) rfl hC dX2_of_18 (by decide) rfl ?_
  refine J_iload_n (j := 3) hC dX2_of_19 rfl ?_
  refine ite_c h (fun c0 h => ?_) (fun c0 h => ?_)
  · refine J_tabIn (tgt := 48) (off := 28) (k := 0) hC dX2_of_20 c0 (by decide) (by decide) (by decide +kernel) (by decide) ?_
    refine J_aload_n (j := 0) hC dX2_of_48 rfl ?_
    refine bnd_c h (fun w7 hw h => ?_)
    refine J_callS (As := [rf v5]) (M' := M) (rv := some (Value.int w7)) (st := []) hC (fun l hl => cX2_degreeOf_ok M v5 _ hw l hl) sm_X2_degreeOf k_X2_80 rfl ⟨Nat.le_of_ble_eq_true rfl, Nat.le_of_ble_eq_true rfl⟩ (Nat.zero_le _) ⟨Nat.le_of_ble_eq_true rfl, Nat.le_of_ble_eq_true rfl⟩ dX2_of_49 rfl ?_
    exact J_iret hC dX2_of_52 (by have h9 := Option.some.inj h; subst h9; rfl) (Nat.le_of_ble_eq_true rfl) (Nat.le_of_ble_eq_true rfl)
  · refine ite_c h (fun c1 h => ?_) (fun c1 h => ?_)
    · refine J_tabIn (tgt := 53) (off := 33) (k := 1) hC dX2_of_20 c1 (by decide) (by decide) (by decide +kernel) (by decide) ?_
      refine J_aload_n (j := 0) hC dX2_of_53 rfl ?_
      refine bnd_c h (fun w8 hw h => ?_)
      refine J_callS (As := [rf v5]) (M' := M) (rv := some (Value.int w8)) (st := []) hC (fun l hl => cX2_notZero_ok M v5 _ hw l hl) sm_X2_notZero k_X2_155 rfl ⟨Nat.le_of_ble_eq_true rfl, Nat.le_of_ble_eq_true rfl⟩ (Nat.zero_le _) ⟨Nat.le_of_ble_eq_true rfl, Nat.le_of_ble_eq_true rfl⟩ dX2_of_54 rfl ?_
      exact J_iret hC dX2_of_57 (by have h9 := Option.some.inj h; subst h9; rfl) (Nat.le_of_ble_eq_true rfl) (Nat.le_of_ble_eq_true rfl)
    · refine ite_c h (fun c2 h => ?_) (fun c2 h => ?_)
      · refine J_tabIn (tgt := 58) (off := 38) (k := 2) hC dX2_of_20 c2 (by decide) (by decide) (by decide +kernel) (by decide) ?_
        refine J_aload_n (j := 0) hC dX2_of_58 rfl ?_
        refine J_iconst (v := 1) hC dX2_of_59 (by decide) ?_
        refine bnd_c h (fun w9 hw h => ?_)
        refine J_callS (As := [rf v5, .int 1]) (M' := M) (rv := some (Value.int w9)) (st := []) hC (fun l hl => cX2_changesOf_ok M v5 1 _ hw l hl) sm_X2_changesOf k_X2_158 rfl ⟨Nat.le_of_ble_eq_true rfl, Nat.le_of_ble_eq_true rfl⟩ (Nat.zero_le _) ⟨Nat.le_of_ble_eq_true rfl, Nat.le_of_ble_eq_true rfl⟩ dX2_of_60 rfl ?_
        exact J_iret hC dX2_of_63 (by have h9 := Option.some.inj h; subst h9; rfl) (Nat.le_of_ble_eq_true rfl) (Nat.le_of_ble_eq_true rfl)
      · have hd9 : a2.toInt < 0 ∨ 2 < a2.toInt := by
          have e0 := ne_toInt c0
          have e1 := ne_toInt c1
          have e2 := ne_toInt c2
          skip
          have f0 : (0 : Int32).toInt = 0 := by decide
          have f1 : (1 : Int32).toInt = 1 := by decide
          have f2 : (2 : Int32).toInt = 2 := by decide
          omega
        refine J_tableOut (tgt := 64) hC dX2_of_20 hd9 (by decide) ?_
        refine J_aload_n (j := 0) hC dX2_of_64 rfl ?_
        refine bnd_c h (fun w6 hw h => ?_)
        refine J_callS (As := [rf v5]) (M' := M) (rv := some (Value.int w6)) (st := []) hC (fun l hl => cX2_formOf_ok M v5 _ hw l hl) sm_X2_formOf k_X2_162 rfl ⟨Nat.le_of_ble_eq_true rfl, Nat.le_of_ble_eq_true rfl⟩ (Nat.zero_le _) ⟨Nat.le_of_ble_eq_true rfl, Nat.le_of_ble_eq_true rfl⟩ dX2_of_65 rfl ?_
        exact J_iret hC dX2_of_68 (by have h9 := Option.some.inj h; subst h9; rfl) (Nat.le_of_ble_eq_true rfl) (Nat.le_of_ble_eq_true rfl)
abbrev rm_X2_hasRoot : Room := { frames := 2, cells := 0, slots := 0, locals := 41 }

set_option maxHeartbeats 4000000 in
set_option maxRecDepth 100000 in
theorem tX2_hasRoot_4 {C : JC} {r0 : Int32} (M : Mem) (x0 : Option Nat) (x1 : Int32) (hC : Ok C false cX2_hasRoot 4 rm_X2_hasRoot (some .boolean) RX2 (M, Sum.inr (some (Value.int r0))))  (k31 : Int32 → Int32 → Option (Int32)) (hk31 : ∀ (x2 : Int32) (x3 : Int32), k31 x2 x3 = some r0 → J C 0 0 M 31 [(0, rf x0), (1, .int x1), (2, .int x2), (3, .int x3)] []) : ∀ (n : Nat) (x2 : Int32) (x3 : Int32), fX2_hasRoot_4 M x0 x1 k31 n x2 x3 = some r0 → J C 0 0 M 4 [(0, rf x0), (1, .int x1), (2, .int x2), (3, .int x3)] [] := by
  intro n
  induction n with
  | zero => intro x2 x3 h; have h : none = some r0 := h; cases h
  | succ n ih =>
    intro x2 x3 h
    rw [fX2_hasRoot_4] at h
    refine J_iload_n (j := 3) hC dX2_hasRoot_4 rfl ?_
    refine J_bipush (v := 9) hC dX2_hasRoot_5 (by decide) ?_
    refine J_icmp_ge (tgt := 31) hC dX2_hasRoot_7 (by decide) (fun c1 => ?_) (fun c1 => ?_)
    · have h := ite_t c1 h
      refine J_sub [0, 1, 2, 3] rfl ?_
      exact hk31 x2 x3 h
    · have h := ite_f c1 h
      refine J_iload_n (j := 2) hC dX2_hasRoot_10 rfl ?_
      refine J_aload_n (j := 0) hC dX2_hasRoot_11 rfl ?_
      refine J_iload_n (j := 3) hC dX2_hasRoot_12 rfl ?_
      refine J_iald hC dX2_hasRoot_13 h (fun v2 _ h => ?_)
      refine J_iload_n (j := 1) hC dX2_hasRoot_14 rfl ?_
      refine J_iload_n (j := 3) hC dX2_hasRoot_15 rfl ?_
      refine bnd_c h (fun w3 hw h => ?_)
      refine J_callS (As := [.int x1, .int x3]) (M' := M) (rv := some (Value.int w3)) (st := [.int v2, .int x2]) hC (fun l hl => cX2_powerOf_ok M x1 x3 _ hw l hl) sm_X2_powerOf k_X2_255 rfl ⟨Nat.le_of_ble_eq_true rfl, Nat.le_of_ble_eq_true rfl⟩ (Nat.le_of_ble_eq_true rfl) ⟨Nat.le_of_ble_eq_true rfl, Nat.le_of_ble_eq_true rfl⟩ dX2_hasRoot_16 rfl ?_
      refine J_imul hC dX2_hasRoot_19 ?_
      refine bnd_c h (fun w4 hw h => ?_)
      refine J_callS (As := [.int (v2 * w3)]) (M' := M) (rv := some (Value.int w4)) (st := [.int x2]) hC (fun l hl => cX2_markOf_ok M (v2 * w3) _ hw l hl) sm_X2_markOf k_X2_234 rfl ⟨Nat.le_of_ble_eq_true rfl, Nat.le_of_ble_eq_true rfl⟩ (Nat.le_of_ble_eq_true rfl) ⟨Nat.le_of_ble_eq_true rfl, Nat.le_of_ble_eq_true rfl⟩ dX2_hasRoot_20 rfl ?_
      refine J_ior hC dX2_hasRoot_23 ?_
      refine J_istore_n (i := 2) (lv' := [(2, .int (x2 ||| w4)), (0, rf x0), (1, .int x1), (3, .int x3)]) rfl hC dX2_hasRoot_24 (by decide) rfl ?_
      refine J_inc (j := 3) (k := 1) (lv' := [(3, .int (x3 + 1)), (2, .int (x2 ||| w4)), (0, rf x0), (1, .int x1)]) hC dX2_hasRoot_25 (by decide) rfl (by decide) rfl ?_
      refine J_goto (tgt := 4) hC dX2_hasRoot_28 (by decide) ?_
      refine J_sub [2, 3, 1, 0] rfl ?_
      exact ih (x2 ||| w4) (x3 + 1) h
set_option maxHeartbeats 4000000 in
set_option maxRecDepth 100000 in
theorem cX2_hasRoot_ok (M : Mem) (a0 : Option Nat) (a1 : Int32) (r0 : Int32) (h : fX2_hasRoot M a0 a1 = some r0) : ∀ l : Launch, l.stackTraces = false → Con false l yX2_hasRoot cX2_hasRoot 4 (some .boolean) rm_X2_hasRoot [rf a0, .int a1] M (M, Sum.inr (some (Value.int r0))) := by
  intro l hst
  refine Con.enter hst (own := RX2) (by decide +kernel) rfl (by exact Nat.le_of_ble_eq_true rfl) (lv0 := [(0, rf a0), (1, .int a1)]) (rfl) (fun C hC hin => ?_)
  unfold fX2_hasRoot at h
  refine J_iconst (v := 0) hC dX2_hasRoot_0 (by decide) ?_
  refine J_istore_n (i := 2) (lv' := [(2, .int 0), (0, rf a0), (1, .int a1)]) rfl hC dX2_hasRoot_1 (by decide) rfl ?_
  refine J_iconst (v := 0) hC dX2_hasRoot_2 (by decide) ?_
  refine J_istore_n (i := 3) (lv' := [(3, .int 0), (2, .int 0), (0, rf a0), (1, .int a1)]) rfl hC dX2_hasRoot_3 (by decide) rfl ?_
  refine J_sub [2, 3, 1, 0] rfl ?_
  refine tX2_hasRoot_4 M a0 a1 hC _ (fun x5 x6 h => ?_) FU 0 0 h
  · refine J_iload_n (j := 2) hC dX2_hasRoot_31 rfl ?_
    refine J_iconst (v := 0) hC dX2_hasRoot_32 (by decide) ?_
    refine bnd_c h (fun w7 hw h => ?_)
    refine J_callS (As := [.int x5, .int 0]) (M' := M) (rv := some (Value.int w7)) (st := []) hC (fun l hl => cX2_holds_ok M x5 0 _ hw l hl) sm_X2_holds k_X2_251 rfl ⟨Nat.le_of_ble_eq_true rfl, Nat.le_of_ble_eq_true rfl⟩ (Nat.zero_le _) ⟨Nat.le_of_ble_eq_true rfl, Nat.le_of_ble_eq_true rfl⟩ dX2_hasRoot_33 rfl ?_
    refine chk_c h (fun hz h => ?_)
    exact J_zret hC dX2_hasRoot_36 (zb_nar hz) (by have h9 := Option.some.inj h; subst h9; rfl) (Nat.le_of_ble_eq_true rfl) (Nat.le_of_ble_eq_true rfl)
abbrev rm_X2_isRoot : Room := { frames := 3, cells := 0, slots := 0, locals := 64 }

set_option maxHeartbeats 4000000 in
set_option maxRecDepth 100000 in
theorem cX2_isRoot_ok (M : Mem) (a0 : Option Nat) (a1 : Int32) (a2 : Int32) (r0 : Int32) (h : fX2_isRoot M a0 a1 a2 = some r0) : ∀ l : Launch, l.stackTraces = false → Con false l yX2_isRoot cX2_isRoot 3 (some .int) rm_X2_isRoot [rf a0, .int a1, .int a2] M (M, Sum.inr (some (Value.int r0))) := by
  intro l hst
  refine Con.enter hst (own := RX2) (by decide +kernel) rfl (by exact Nat.le_of_ble_eq_true rfl) (lv0 := [(0, rf a0), (1, .int a1), (2, .int a2)]) (rfl) (fun C hC hin => ?_)
  unfold fX2_isRoot at h
  refine J_iload_n (j := 1) hC dX2_isRoot_0 rfl ?_
  refine bnd_c h (fun w1 hw h => ?_)
  refine J_callS (As := [.int a1]) (M' := M) (rv := none) (st := []) hC (fun l hl => cX2_checkNumber_ok M a1 _ hw l hl) sm_X2_checkNumber k_X2_56 rfl ⟨Nat.le_of_ble_eq_true rfl, Nat.le_of_ble_eq_true rfl⟩ (Nat.zero_le _) ⟨Nat.le_of_ble_eq_true rfl, Nat.le_of_ble_eq_true rfl⟩ dX2_isRoot_1 rfl ?_
  refine J_iload_n (j := 2) hC dX2_isRoot_4 rfl ?_
  refine bnd_c h (fun w2 hw h => ?_)
  refine J_callS (As := [.int a2]) (M' := M) (rv := none) (st := []) hC (fun l hl => cX2_checkSign_ok M a2 _ hw l hl) sm_X2_checkSign k_X2_63 rfl ⟨Nat.le_of_ble_eq_true rfl, Nat.le_of_ble_eq_true rfl⟩ (Nat.zero_le _) ⟨Nat.le_of_ble_eq_true rfl, Nat.le_of_ble_eq_true rfl⟩ dX2_isRoot_5 rfl ?_
  refine J_aload_n (j := 0) hC dX2_isRoot_8 rfl ?_
  refine J_g2_0 hC k_X2_12 dX2_isRoot_9 h (fun v3 _ h => ?_)
  refine J_g1_0 hC k_X2_69 dX2_isRoot_12 h (fun v4 _ h => ?_)
  refine J_iload_n (j := 1) hC dX2_isRoot_15 rfl ?_
  refine J_aald9 hC dX2_isRoot_16 h (fun v5 _ h => ?_)
  refine J_iload_n (j := 2) hC dX2_isRoot_17 rfl ?_
  refine bnd_c h (fun w6 hw h => ?_)
  refine J_callS (As := [rf v5, .int a2]) (M' := M) (rv := some (Value.int w6)) (st := []) hC (fun l hl => cX2_hasRoot_ok M v5 a2 _ hw l hl) sm_X2_hasRoot k_X2_165 rfl ⟨Nat.le_of_ble_eq_true rfl, Nat.le_of_ble_eq_true rfl⟩ (Nat.zero_le _) ⟨Nat.le_of_ble_eq_true rfl, Nat.le_of_ble_eq_true rfl⟩ dX2_isRoot_18 rfl ?_
  have hj : ∀ (z7 : Int32), z7 = (if w6 = 0 then 0 else 1) → J C 0 0 M 29 [(0, rf a0), (1, .int a1), (2, .int a2)] [.int z7] := by
    intro z7 ez7
    subst ez7
    exact J_iret hC dX2_isRoot_29 (by have h9 := Option.some.inj h; subst h9; rfl) (Nat.le_of_ble_eq_true rfl) (Nat.le_of_ble_eq_true rfl)
  refine J_if_eq (tgt := 28) hC dX2_isRoot_21 (by decide) (fun c8 => ?_) (fun c8 => ?_)
  · refine J_iconst (v := 0) hC dX2_isRoot_28 (by decide) ?_
    refine J_sub [0, 1, 2] rfl ?_
    exact hj _ (if_pos c8).symm
  · refine J_iconst (v := 1) hC dX2_isRoot_24 (by decide) ?_
    refine J_goto (tgt := 29) hC dX2_isRoot_25 (by decide) ?_
    refine J_sub [0, 1, 2] rfl ?_
    exact hj _ (if_neg c8).symm
abbrev rm_X2_zerosBelow : Room := { frames := 0, cells := 0, slots := 0, locals := 0 }

set_option maxHeartbeats 4000000 in
set_option maxRecDepth 100000 in
theorem tX2_zerosBelow_4 {C : JC} {r0 : Int32} (M : Mem) (x0 : Option Nat) (hC : Ok C false cX2_zerosBelow 3 rm_X2_zerosBelow (some .int) RX2 (M, Sum.inr (some (Value.int r0))))  (k25 : Int32 → Int32 → Option (Int32)) (hk25 : ∀ (x1 : Int32) (x2 : Int32), k25 x1 x2 = some r0 → J C 0 0 M 25 [(0, rf x0), (1, .int x1), (2, .int x2)] []) : ∀ (n : Nat) (x1 : Int32) (x2 : Int32), fX2_zerosBelow_4 M x0 k25 n x1 x2 = some r0 → J C 0 0 M 4 [(0, rf x0), (1, .int x1), (2, .int x2)] [] := by
  intro n
  induction n with
  | zero => intro x1 x2 h; have h : none = some r0 := h; cases h
  | succ n ih =>
    intro x1 x2 h
    rw [fX2_zerosBelow_4] at h
    refine J_iload_n (j := 2) hC dX2_zerosBelow_4 rfl ?_
    refine J_bipush (v := 9) hC dX2_zerosBelow_5 (by decide) ?_
    refine J_icmp_ge (tgt := 25) hC dX2_zerosBelow_7 (by decide) (fun c1 => ?_) (fun c1 => ?_)
    · have h := ite_t c1 h
      refine J_sub [0, 1, 2] rfl ?_
      exact hk25 x1 x2 h
    · have h := ite_f c1 h
      refine J_aload_n (j := 0) hC dX2_zerosBelow_10 rfl ?_
      refine J_iload_n (j := 2) hC dX2_zerosBelow_11 rfl ?_
      refine J_iald hC dX2_zerosBelow_12 h (fun v2 _ h => ?_)
      refine J_if_ne (tgt := 25) hC dX2_zerosBelow_13 (by decide) (fun c3 => ?_) (fun c3 => ?_)
      · have h := ite_f c3 h
        refine J_sub [0, 1, 2] rfl ?_
        exact hk25 x1 x2 h
      · have h := ite_t c3 h
        refine J_inc (j := 1) (k := 1) (lv' := [(1, .int (x1 + 1)), (0, rf x0), (2, .int x2)]) hC dX2_zerosBelow_16 (by decide) rfl (by decide) rfl ?_
        refine J_inc (j := 2) (k := 1) (lv' := [(2, .int (x2 + 1)), (1, .int (x1 + 1)), (0, rf x0)]) hC dX2_zerosBelow_19 (by decide) rfl (by decide) rfl ?_
        refine J_goto (tgt := 4) hC dX2_zerosBelow_22 (by decide) ?_
        refine J_sub [2, 1, 0] rfl ?_
        exact ih (x1 + 1) (x2 + 1) h
set_option maxHeartbeats 4000000 in
set_option maxRecDepth 100000 in
theorem cX2_zerosBelow_ok (M : Mem) (a0 : Option Nat) (r0 : Int32) (h : fX2_zerosBelow M a0 = some r0) : ∀ l : Launch, l.stackTraces = false → Con false l yX2_zerosBelow cX2_zerosBelow 3 (some .int) rm_X2_zerosBelow [rf a0] M (M, Sum.inr (some (Value.int r0))) := by
  intro l hst
  refine Con.enter hst (own := RX2) (by decide +kernel) rfl (by exact Nat.le_of_ble_eq_true rfl) (lv0 := [(0, rf a0)]) (rfl) (fun C hC hin => ?_)
  unfold fX2_zerosBelow at h
  refine J_iconst (v := 0) hC dX2_zerosBelow_0 (by decide) ?_
  refine J_istore_n (i := 1) (lv' := [(1, .int 0), (0, rf a0)]) rfl hC dX2_zerosBelow_1 (by decide) rfl ?_
  refine J_iconst (v := 0) hC dX2_zerosBelow_2 (by decide) ?_
  refine J_istore_n (i := 2) (lv' := [(2, .int 0), (1, .int 0), (0, rf a0)]) rfl hC dX2_zerosBelow_3 (by decide) rfl ?_
  refine J_sub [2, 1, 0] rfl ?_
  refine tX2_zerosBelow_4 M a0 hC _ (fun x4 x5 h => ?_) FU 0 0 h
  · refine J_iload_n (j := 1) hC dX2_zerosBelow_25 rfl ?_
    exact J_iret hC dX2_zerosBelow_26 (by have h9 := Option.some.inj h; subst h9; rfl) (Nat.le_of_ble_eq_true rfl) (Nat.le_of_ble_eq_true rfl)
abbrev rm_X2_countedTimes : Room := { frames := 2, cells := 0, slots := 0, locals := 46 }

set_option maxHeartbeats 4000000 in
set_option maxRecDepth 100000 in
theorem cX2_countedTimes_ok (M : Mem) (a0 : Option Nat) (a1 : Int32) (r0 : Int32) (h : fX2_countedTimes M a0 a1 = some r0) : ∀ l : Launch, l.stackTraces = false → Con false l yX2_countedTimes cX2_countedTimes 2 (some .int) rm_X2_countedTimes [rf a0, .int a1] M (M, Sum.inr (some (Value.int r0))) := by
  intro l hst
  refine Con.enter hst (own := RX2) (by decide +kernel) rfl (by exact Nat.le_of_ble_eq_true rfl) (lv0 := [(0, rf a0), (1, .int a1)]) (rfl) (fun C hC hin => ?_)
  unfold fX2_countedTimes at h
  refine J_iload_n (j := 1) hC dX2_countedTimes_0 rfl ?_
  refine J_if_ne (tgt := 11) hC dX2_countedTimes_1 (by decide) (fun c1 => ?_) (fun c1 => ?_)
  · have h := ite_f c1 h
    refine J_aload_n (j := 0) hC dX2_countedTimes_11 rfl ?_
    refine J_iload_n (j := 1) hC dX2_countedTimes_12 rfl ?_
    refine bnd_c h (fun w3 hw h => ?_)
    refine J_callS (As := [rf a0, .int a1]) (M' := M) (rv := some (Value.int w3)) (st := []) hC (fun l hl => cX2_changesOf_ok M a0 a1 _ hw l hl) sm_X2_changesOf k_X2_158 rfl ⟨Nat.le_of_ble_eq_true rfl, Nat.le_of_ble_eq_true rfl⟩ (Nat.zero_le _) ⟨Nat.le_of_ble_eq_true rfl, Nat.le_of_ble_eq_true rfl⟩ dX2_countedTimes_13 rfl ?_
    exact J_iret hC dX2_countedTimes_16 (by have h9 := Option.some.inj h; subst h9; rfl) (Nat.le_of_ble_eq_true rfl) (Nat.le_of_ble_eq_true rfl)
  · have h := ite_t c1 h
    refine J_aload_n (j := 0) hC dX2_countedTimes_4 rfl ?_
    refine bnd_c h (fun w2 hw h => ?_)
    refine J_callS (As := [rf a0]) (M' := M) (rv := some (Value.int w2)) (st := []) hC (fun l hl => cX2_zerosBelow_ok M a0 _ hw l hl) sm_X2_zerosBelow k_X2_259 rfl ⟨Nat.le_of_ble_eq_true rfl, Nat.le_of_ble_eq_true rfl⟩ (Nat.zero_le _) ⟨Nat.le_of_ble_eq_true rfl, Nat.le_of_ble_eq_true rfl⟩ dX2_countedTimes_5 rfl ?_
    refine J_goto (tgt := 16) hC dX2_countedTimes_8 (by decide) ?_
    exact J_iret hC dX2_countedTimes_16 (by have h9 := Option.some.inj h; subst h9; rfl) (Nat.le_of_ble_eq_true rfl) (Nat.le_of_ble_eq_true rfl)
abbrev rm_X2_times : Room := { frames := 17, cells := 0, slots := 0, locals := 463 }

set_option maxHeartbeats 4000000 in
set_option maxRecDepth 100000 in
theorem cX2_times_ok (M : Mem) (a0 : Option Nat) (a1 : Int32) (a2 : Int32) (a3 : Int32) (r0 : Mem × Int32) (h : fX2_times M a0 a1 a2 a3 = some r0) : ∀ l : Launch, l.stackTraces = false → Con false l yX2_times cX2_times 5 (some .int) rm_X2_times [rf a0, .int a1, .int a2, .int a3] M (r0.1, Sum.inr (some (Value.int r0.2))) := by
  intro l hst
  refine Con.enter hst (own := RX2) (by decide +kernel) rfl (by exact Nat.le_of_ble_eq_true rfl) (lv0 := [(0, rf a0), (1, .int a1), (2, .int a2), (3, .int a3)]) (rfl) (fun C hC hin => ?_)
  unfold fX2_times at h
  refine J_iload_n (j := 1) hC dX2_times_0 rfl ?_
  refine bnd_c h (fun w1 hw h => ?_)
  refine J_callS (As := [.int a1]) (M' := M) (rv := none) (st := []) hC (fun l hl => cX2_checkNumber_ok M a1 _ hw l hl) sm_X2_checkNumber k_X2_56 rfl ⟨Nat.le_of_ble_eq_true rfl, Nat.le_of_ble_eq_true rfl⟩ (Nat.zero_le _) ⟨Nat.le_of_ble_eq_true rfl, Nat.le_of_ble_eq_true rfl⟩ dX2_times_1 rfl ?_
  refine J_iload_n (j := 2) hC dX2_times_4 rfl ?_
  refine bnd_c h (fun w2 hw h => ?_)
  refine J_callS (As := [.int a2]) (M' := M) (rv := none) (st := []) hC (fun l hl => cX2_checkSign_ok M a2 _ hw l hl) sm_X2_checkSign k_X2_63 rfl ⟨Nat.le_of_ble_eq_true rfl, Nat.le_of_ble_eq_true rfl⟩ (Nat.zero_le _) ⟨Nat.le_of_ble_eq_true rfl, Nat.le_of_ble_eq_true rfl⟩ dX2_times_5 rfl ?_
  refine J_iload_n (j := 3) hC dX2_times_8 rfl ?_
  refine J_iconst (v := 2) hC dX2_times_9 (by decide) ?_
  refine bnd_c h (fun w3 hw h => ?_)
  refine J_callS (As := [.int a3, .int 2]) (M' := M) (rv := none) (st := []) hC (fun l hl => cX2_checkWhat_ok M a3 2 _ hw l hl) sm_X2_checkWhat k_X2_151 rfl ⟨Nat.le_of_ble_eq_true rfl, Nat.le_of_ble_eq_true rfl⟩ (Nat.zero_le _) ⟨Nat.le_of_ble_eq_true rfl, Nat.le_of_ble_eq_true rfl⟩ dX2_times_10 rfl ?_
  refine J_aload_n (j := 0) hC dX2_times_13 rfl ?_
  refine J_g2_0 hC k_X2_12 dX2_times_14 h (fun v4 _ h => ?_)
  refine J_g1_0 hC k_X2_69 dX2_times_17 h (fun v5 _ h => ?_)
  refine J_iload_n (j := 1) hC dX2_times_20 rfl ?_
  refine J_aald9 hC dX2_times_21 h (fun v6 _ h => ?_)
  refine J_astore (lv' := [(4, rf v6), (0, rf a0), (1, .int a1), (2, .int a2), (3, .int a3)]) hC dX2_times_22 (by decide) rfl ?_
  refine J_iload_n (j := 4) hC dX2_times_24 rfl ?_
  refine J_if_ne (tgt := 46) hC dX2_times_25 (by decide) (fun c7 => ?_) (fun c7 => ?_)
  · have h := ite_f c7 h
    refine J_aload (j := 0) hC dX2_times_46 rfl ?_
    refine J_iload_n (j := 3) hC dX2_times_48 rfl ?_
    refine bnd_c h (fun w11 hw h => ?_)
    refine J_callS (As := [rf v6, .int a2]) (M' := M) (rv := some (Value.int w11)) (st := []) hC (fun l hl => cX2_countedTimes_ok M v6 a2 _ hw l hl) sm_X2_countedTimes k_X2_168 rfl ⟨Nat.le_of_ble_eq_true rfl, Nat.le_of_ble_eq_true rfl⟩ (Nat.zero_le _) ⟨Nat.le_of_ble_eq_true rfl, Nat.le_of_ble_eq_true rfl⟩ dX2_times_49 rfl ?_
    exact J_iret hC dX2_times_52 (by have h9 := Option.some.inj h; subst h9; rfl) (Nat.le_of_ble_eq_true rfl) (Nat.le_of_ble_eq_true rfl)
  · have h := ite_t c7 h
    refine J_aload (j := 0) hC dX2_times_28 rfl ?_
    refine J_iload_n (j := 3) hC dX2_times_30 rfl ?_
    refine J_aload_n (j := 1) hC dX2_times_31 rfl ?_
    refine J_g2_8 hC k_X2_44 dX2_times_32 h (fun v8 _ h => ?_)
    refine J_aload_n (j := 1) hC dX2_times_35 rfl ?_
    refine J_g2_9 hC k_X2_51 dX2_times_36 h (fun v9 _ h => ?_)
    refine J_iconst (v := 0) hC dX2_times_39 (by decide) ?_
    refine bnd_c h (fun w10 hw h => ?_)
    refine J_callS (As := [rf v6, .int a2, rf v8, rf v9, .int 0]) (M' := w10.1) (rv := some (Value.int w10.2)) (st := []) hC (fun l hl => cX2_tryQuotients_ok M v6 a2 v8 v9 0 _ hw l hl) sm_X2_tryQuotients k_X2_90 rfl ⟨Nat.le_of_ble_eq_true rfl, Nat.le_of_ble_eq_true rfl⟩ (Nat.zero_le _) ⟨Nat.le_of_ble_eq_true rfl, Nat.le_of_ble_eq_true rfl⟩ dX2_times_40 rfl ?_
    refine J_goto (tgt := 52) hC dX2_times_43 (by decide) ?_
    exact J_iret hC dX2_times_52 (by have h9 := Option.some.inj h; subst h9; rfl) (Nat.le_of_ble_eq_true rfl) (Nat.le_of_ble_eq_true rfl)
abbrev rm_X2_quotientsOf : Room := { frames := 4, cells := 0, slots := 0, locals := 86 }

set_option maxHeartbeats 4000000 in
set_option maxRecDepth 100000 in
theorem tX2_quotientsOf_19 {C : JC} {r0 : Mem × Int32} (x0 : Option Nat) (x1 : Option Nat) (x2 : Int32) (x3 : Option Nat) (hC : Ok C false cX2_quotientsOf 6 rm_X2_quotientsOf (some .int) RX2 (r0.1, Sum.inr (some (Value.int r0.2))))  (k43 : Mem → Int32 → Int32 → Option (Mem × Int32)) (hk43 : ∀ (M : Mem) (x4 : Int32) (x5 : Int32), k43 M x4 x5 = some r0 → J C 0 0 M 43 [(0, rf x0), (1, rf x1), (2, .int x2), (3, rf x3), (4, .int x4), (5, .int x5)] []) : ∀ (n : Nat) (M : Mem) (x4 : Int32) (x5 : Int32), fX2_quotientsOf_19 x0 x1 x2 x3 k43 n M x4 x5 = some r0 → J C 0 0 M 19 [(0, rf x0), (1, rf x1), (2, .int x2), (3, rf x3), (4, .int x4), (5, .int x5)] [] := by
  intro n
  induction n with
  | zero => intro M x4 x5 h; have h : none = some r0 := h; cases h
  | succ n ih =>
    intro M x4 x5 h
    rw [fX2_quotientsOf_19] at h
    refine J_iload (j := 5) hC dX2_quotientsOf_19 rfl ?_
    refine J_ldcw (v := 1000000) hC k_X2_266 dX2_quotientsOf_21 ?_
    refine J_icmp_ge (tgt := 43) hC dX2_quotientsOf_24 (by decide) (fun c4 => ?_) (fun c4 => ?_)
    · have h := ite_t c4 h
      refine J_sub [0, 1, 2, 3, 4, 5] rfl ?_
      exact hk43 M x4 x5 h
    · have h := ite_f c4 h
      refine J_aload_n (j := 3) hC dX2_quotientsOf_27 rfl ?_
      refine ck_c h (fun ho h => ?_)
      refine bnd_c h (fun w5 hw h => ?_)
      refine J_callV (As := []) (M' := w5.1) (rv := some (Value.int w5.2)) (st := []) hC (fun l hl => cX0_advance_ok M x3 _ hw l hl) vm_X0_advance k_X2_267 ho ⟨rfl, rfl⟩ rfl ⟨Nat.le_of_ble_eq_true rfl, Nat.le_of_ble_eq_true rfl⟩ (Nat.zero_le _) ⟨Nat.le_of_ble_eq_true rfl, Nat.le_of_ble_eq_true rfl⟩ dX2_quotientsOf_28 rfl ?_
      refine J_if_eq (tgt := 43) hC dX2_quotientsOf_31 (by decide) (fun c6 => ?_) (fun c6 => ?_)
      · have h := ite_t c6 h
        refine J_sub [0, 1, 2, 3, 4, 5] rfl ?_
        exact hk43 w5.1 x4 x5 h
      · have h := ite_f c6 h
        refine J_inc (j := 4) (k := 1) (lv' := [(4, .int (x4 + 1)), (0, rf x0), (1, rf x1), (2, .int x2), (3, rf x3), (5, .int x5)]) hC dX2_quotientsOf_34 (by decide) rfl (by decide) rfl ?_
        refine J_inc (j := 5) (k := 1) (lv' := [(5, .int (x5 + 1)), (4, .int (x4 + 1)), (0, rf x0), (1, rf x1), (2, .int x2), (3, rf x3)]) hC dX2_quotientsOf_37 (by decide) rfl (by decide) rfl ?_
        refine J_goto (tgt := 19) hC dX2_quotientsOf_40 (by decide) ?_
        refine J_sub [2, 3, 4, 5, 1, 0] rfl ?_
        exact ih w5.1 (x4 + 1) (x5 + 1) h
set_option maxHeartbeats 4000000 in
set_option maxRecDepth 100000 in
theorem cX2_quotientsOf_ok (M : Mem) (a0 : Option Nat) (a1 : Option Nat) (a2 : Int32) (r0 : Mem × Int32) (h : fX2_quotientsOf M a0 a1 a2 = some r0) : ∀ l : Launch, l.stackTraces = false → Con false l yX2_quotientsOf cX2_quotientsOf 6 (some .int) rm_X2_quotientsOf [rf a0, rf a1, .int a2] M (r0.1, Sum.inr (some (Value.int r0.2))) := by
  intro l hst
  refine Con.enter hst (own := RX2) (by decide +kernel) rfl (by exact Nat.le_of_ble_eq_true rfl) (lv0 := [(0, rf a0), (1, rf a1), (2, .int a2)]) (rfl) (fun C hC hin => ?_)
  unfold fX2_quotientsOf at h
  refine J_aload_n (j := 0) hC dX2_quotientsOf_0 rfl ?_
  refine J_g2_8 hC k_X2_44 dX2_quotientsOf_1 h (fun v1 _ h => ?_)
  refine J_iconst (v := 0) hC dX2_quotientsOf_4 (by decide) ?_
  refine J_aald7 hC dX2_quotientsOf_5 h (fun v2 _ h => ?_)
  refine J_astore_n (i := 3) (lv' := [(3, rf v2), (0, rf a0), (1, rf a1), (2, .int a2)]) rfl hC dX2_quotientsOf_6 (by decide) rfl ?_
  refine J_aload_n (j := 0) hC dX2_quotientsOf_7 rfl ?_
  refine J_aload_n (j := 2) hC dX2_quotientsOf_8 rfl ?_
  refine J_iload_n (j := 3) hC dX2_quotientsOf_9 rfl ?_
  refine ck_c h (fun ho h => ?_)
  refine bnd_c h (fun w3 hw h => ?_)
  refine J_callV (As := [rf a1, .int a2]) (M' := w3) (rv := none) (st := []) hC (fun l hl => cX0_start_ok M v2 a1 a2 _ hw l hl) vm_X0_start k_X2_262 ho ⟨rfl, rfl⟩ rfl ⟨Nat.le_of_ble_eq_true rfl, Nat.le_of_ble_eq_true rfl⟩ (Nat.zero_le _) ⟨Nat.le_of_ble_eq_true rfl, Nat.le_of_ble_eq_true rfl⟩ dX2_quotientsOf_10 rfl ?_
  refine J_iconst (v := 0) hC dX2_quotientsOf_13 (by decide) ?_
  refine J_istore (lv' := [(4, .int 0), (3, rf v2), (0, rf a0), (1, rf a1), (2, .int a2)]) hC dX2_quotientsOf_14 (by decide) rfl ?_
  refine J_iconst (v := 0) hC dX2_quotientsOf_16 (by decide) ?_
  refine J_istore (lv' := [(5, .int 0), (4, .int 0), (3, rf v2), (0, rf a0), (1, rf a1), (2, .int a2)]) hC dX2_quotientsOf_17 (by decide) rfl ?_
  refine J_sub [3, 4, 5, 2, 1, 0] rfl ?_
  refine tX2_quotientsOf_19 a0 a1 a2 v2 hC _ (fun M7 x8 x9 h => ?_) FU w3 0 0 h
  · refine J_iload (j := 4) hC dX2_quotientsOf_43 rfl ?_
    exact J_iret hC dX2_quotientsOf_45 (by have h9 := Option.some.inj h; subst h9; rfl) (Nat.le_of_ble_eq_true rfl) (Nat.le_of_ble_eq_true rfl)
abbrev rm_X2_quotients : Room := { frames := 5, cells := 0, slots := 0, locals := 111 }

set_option maxHeartbeats 4000000 in
set_option maxRecDepth 100000 in
theorem cX2_quotients_ok (M : Mem) (a0 : Option Nat) (a1 : Int32) (a2 : Int32) (r0 : Mem × Int32) (h : fX2_quotients M a0 a1 a2 = some r0) : ∀ l : Launch, l.stackTraces = false → Con false l yX2_quotients cX2_quotients 3 (some .int) rm_X2_quotients [rf a0, .int a1, .int a2] M (r0.1, Sum.inr (some (Value.int r0.2))) := by
  intro l hst
  refine Con.enter hst (own := RX2) (by decide +kernel) rfl (by exact Nat.le_of_ble_eq_true rfl) (lv0 := [(0, rf a0), (1, .int a1), (2, .int a2)]) (rfl) (fun C hC hin => ?_)
  unfold fX2_quotients at h
  refine J_iload_n (j := 1) hC dX2_quotients_0 rfl ?_
  refine bnd_c h (fun w1 hw h => ?_)
  refine J_callS (As := [.int a1]) (M' := M) (rv := none) (st := []) hC (fun l hl => cX2_checkNumber_ok M a1 _ hw l hl) sm_X2_checkNumber k_X2_56 rfl ⟨Nat.le_of_ble_eq_true rfl, Nat.le_of_ble_eq_true rfl⟩ (Nat.zero_le _) ⟨Nat.le_of_ble_eq_true rfl, Nat.le_of_ble_eq_true rfl⟩ dX2_quotients_1 rfl ?_
  refine J_iload_n (j := 2) hC dX2_quotients_4 rfl ?_
  refine bnd_c h (fun w2 hw h => ?_)
  refine J_callS (As := [.int a2]) (M' := M) (rv := none) (st := []) hC (fun l hl => cX2_checkSign_ok M a2 _ hw l hl) sm_X2_checkSign k_X2_63 rfl ⟨Nat.le_of_ble_eq_true rfl, Nat.le_of_ble_eq_true rfl⟩ (Nat.zero_le _) ⟨Nat.le_of_ble_eq_true rfl, Nat.le_of_ble_eq_true rfl⟩ dX2_quotients_5 rfl ?_
  refine J_aload_n (j := 0) hC dX2_quotients_8 rfl ?_
  refine J_aload_n (j := 0) hC dX2_quotients_9 rfl ?_
  refine J_g2_0 hC k_X2_12 dX2_quotients_10 h (fun v3 _ h => ?_)
  refine J_g1_0 hC k_X2_69 dX2_quotients_13 h (fun v4 _ h => ?_)
  refine J_iload_n (j := 1) hC dX2_quotients_16 rfl ?_
  refine J_aald9 hC dX2_quotients_17 h (fun v5 _ h => ?_)
  refine J_iload_n (j := 2) hC dX2_quotients_18 rfl ?_
  refine ck_c h (fun ho h => ?_)
  refine bnd_c h (fun w6 hw h => ?_)
  refine J_callV (As := [rf v5, .int a2]) (M' := w6.1) (rv := some (Value.int w6.2)) (st := []) hC (fun l hl => cX2_quotientsOf_ok M a0 v5 a2 _ hw l hl) vm_X2_quotientsOf k_X2_171 ho ⟨rfl, rfl⟩ rfl ⟨Nat.le_of_ble_eq_true rfl, Nat.le_of_ble_eq_true rfl⟩ (Nat.zero_le _) ⟨Nat.le_of_ble_eq_true rfl, Nat.le_of_ble_eq_true rfl⟩ dX2_quotients_19 rfl ?_
  exact J_iret hC dX2_quotients_22 (by have h9 := Option.some.inj h; subst h9; rfl) (Nat.le_of_ble_eq_true rfl) (Nat.le_of_ble_eq_true rfl)
abbrev rm_X2_bestForm : Room := { frames := 1, cells := 0, slots := 0, locals := 22 }

set_option maxHeartbeats 4000000 in
set_option maxRecDepth 100000 in
theorem cX2_bestForm_ok (M : Mem) (a0 : Option Nat) (a1 : Int32) (r0 : Int32) (h : fX2_bestForm M a0 a1 = some r0) : ∀ l : Launch, l.stackTraces = false → Con false l yX2_bestForm cX2_bestForm 2 (some .int) rm_X2_bestForm [rf a0, .int a1] M (M, Sum.inr (some (Value.int r0))) := by
  intro l hst
  refine Con.enter hst (own := RX2) (by decide +kernel) rfl (by exact Nat.le_of_ble_eq_true rfl) (lv0 := [(0, rf a0), (1, .int a1)]) (rfl) (fun C hC hin => ?_)
  unfold fX2_bestForm at h
  refine J_iload_n (j := 1) hC dX2_bestForm_0 rfl ?_
  refine J_if_ne (tgt := 9) hC dX2_bestForm_1 (by decide) (fun c1 => ?_) (fun c1 => ?_)
  · have h := ite_f c1 h
    refine J_aload_n (j := 0) hC dX2_bestForm_9 rfl ?_
    refine J_g2_8 hC k_X2_44 dX2_bestForm_10 h (fun v2 _ h => ?_)
    refine J_iconst (v := 0) hC dX2_bestForm_13 (by decide) ?_
    refine J_aald7 hC dX2_bestForm_14 h (fun v3 _ h => ?_)
    refine J_g0_2 hC k_X2_94 dX2_bestForm_15 h (fun v4 _ h => ?_)
    refine bnd_c h (fun w5 hw h => ?_)
    refine J_callS (As := [rf v4]) (M' := M) (rv := some (Value.int w5)) (st := []) hC (fun l hl => cX2_formOf_ok M v4 _ hw l hl) sm_X2_formOf k_X2_162 rfl ⟨Nat.le_of_ble_eq_true rfl, Nat.le_of_ble_eq_true rfl⟩ (Nat.zero_le _) ⟨Nat.le_of_ble_eq_true rfl, Nat.le_of_ble_eq_true rfl⟩ dX2_bestForm_18 rfl ?_
    exact J_iret hC dX2_bestForm_21 (by have h9 := Option.some.inj h; subst h9; rfl) (Nat.le_of_ble_eq_true rfl) (Nat.le_of_ble_eq_true rfl)
  · have h := ite_t c1 h
    refine J_bipush (v := (-9)) hC dX2_bestForm_4 (by decide) ?_
    refine J_goto (tgt := 21) hC dX2_bestForm_6 (by decide) ?_
    exact J_iret hC dX2_bestForm_21 (by have h9 := Option.some.inj h; subst h9; rfl) (Nat.le_of_ble_eq_true rfl) (Nat.le_of_ble_eq_true rfl)
abbrev rm_X2_best : Room := { frames := 17, cells := 0, slots := 0, locals := 463 }

set_option maxHeartbeats 4000000 in
set_option maxRecDepth 100000 in
theorem cX2_best_ok (M : Mem) (a0 : Option Nat) (a1 : Int32) (a2 : Int32) (r0 : Mem × Int32) (h : fX2_best M a0 a1 a2 = some r0) : ∀ l : Launch, l.stackTraces = false → Con false l yX2_best cX2_best 3 (some .int) rm_X2_best [rf a0, .int a1, .int a2] M (r0.1, Sum.inr (some (Value.int r0.2))) := by
  intro l hst
  refine Con.enter hst (own := RX2) (by decide +kernel) rfl (by exact Nat.le_of_ble_eq_true rfl) (lv0 := [(0, rf a0), (1, .int a1), (2, .int a2)]) (rfl) (fun C hC hin => ?_)
  unfold fX2_best at h
  refine J_iload_n (j := 1) hC dX2_best_0 rfl ?_
  refine bnd_c h (fun w1 hw h => ?_)
  refine J_callS (As := [.int a1]) (M' := M) (rv := none) (st := []) hC (fun l hl => cX2_checkNumber_ok M a1 _ hw l hl) sm_X2_checkNumber k_X2_56 rfl ⟨Nat.le_of_ble_eq_true rfl, Nat.le_of_ble_eq_true rfl⟩ (Nat.zero_le _) ⟨Nat.le_of_ble_eq_true rfl, Nat.le_of_ble_eq_true rfl⟩ dX2_best_1 rfl ?_
  refine J_iload_n (j := 2) hC dX2_best_4 rfl ?_
  refine bnd_c h (fun w2 hw h => ?_)
  refine J_callS (As := [.int a2]) (M' := M) (rv := none) (st := []) hC (fun l hl => cX2_checkSign_ok M a2 _ hw l hl) sm_X2_checkSign k_X2_63 rfl ⟨Nat.le_of_ble_eq_true rfl, Nat.le_of_ble_eq_true rfl⟩ (Nat.zero_le _) ⟨Nat.le_of_ble_eq_true rfl, Nat.le_of_ble_eq_true rfl⟩ dX2_best_5 rfl ?_
  refine J_aload_n (j := 0) hC dX2_best_8 rfl ?_
  refine J_aload_n (j := 0) hC dX2_best_9 rfl ?_
  refine J_g2_0 hC k_X2_12 dX2_best_10 h (fun v3 _ h => ?_)
  refine J_g1_0 hC k_X2_69 dX2_best_13 h (fun v4 _ h => ?_)
  refine J_iload_n (j := 1) hC dX2_best_16 rfl ?_
  refine J_aald9 hC dX2_best_17 h (fun v5 _ h => ?_)
  refine J_iload_n (j := 2) hC dX2_best_18 rfl ?_
  refine J_aload_n (j := 0) hC dX2_best_19 rfl ?_
  refine J_g2_8 hC k_X2_44 dX2_best_20 h (fun v6 _ h => ?_)
  refine J_aload_n (j := 0) hC dX2_best_23 rfl ?_
  refine J_g2_9 hC k_X2_51 dX2_best_24 h (fun v7 _ h => ?_)
  refine J_iconst (v := 0) hC dX2_best_27 (by decide) ?_
  refine bnd_c h (fun w8 hw h => ?_)
  refine J_callS (As := [rf v5, .int a2, rf v6, rf v7, .int 0]) (M' := w8.1) (rv := some (Value.int w8.2)) (st := [rf a0]) hC (fun l hl => cX2_tryQuotients_ok M v5 a2 v6 v7 0 _ hw l hl) sm_X2_tryQuotients k_X2_90 rfl ⟨Nat.le_of_ble_eq_true rfl, Nat.le_of_ble_eq_true rfl⟩ (Nat.le_of_ble_eq_true rfl) ⟨Nat.le_of_ble_eq_true rfl, Nat.le_of_ble_eq_true rfl⟩ dX2_best_28 rfl ?_
  refine ck_c h (fun ho h => ?_)
  refine bnd_c h (fun w9 hw h => ?_)
  refine J_callV (As := [.int w8.2]) (M' := w8.1) (rv := some (Value.int w9)) (st := []) hC (fun l hl => cX2_bestForm_ok w8.1 a0 w8.2 _ hw l hl) vm_X2_bestForm k_X2_174 ho ⟨rfl, rfl⟩ rfl ⟨Nat.le_of_ble_eq_true rfl, Nat.le_of_ble_eq_true rfl⟩ (Nat.zero_le _) ⟨Nat.le_of_ble_eq_true rfl, Nat.le_of_ble_eq_true rfl⟩ dX2_best_31 rfl ?_
  exact J_iret hC dX2_best_34 (by have h9 := Option.some.inj h; subst h9; rfl) (Nat.le_of_ble_eq_true rfl) (Nat.le_of_ble_eq_true rfl)
