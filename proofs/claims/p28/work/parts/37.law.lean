set_option maxHeartbeats 4000000 in
set_option maxRecDepth 100000 in
theorem tL_A {C : JC} {r0 : Mem × Int32} {b : Nat} (xs : Nat → Int32) (L : Nat) (x1 : Option Nat) (hC : Ok C false cL_law 12 room_1 (some .boolean) RL (r0.1, Sum.inr (some (Value.int r0.2)))) (hSc : ScOK C b L xs) (x2 : Int32) (kn : Mem → Int32 → Int32 → Option (Mem × Int32)) (hk : ∀ (M : Mem) (x3 : Int32) (x4 : Int32), kn M x3 x4 = some r0 → J C 117 2194 M 86 [(0, .ref b), (1, rf x1), (2, .int x2), (3, .int x3), (4, .int x4)] []) (M : Mem) (h : fL_A xs L x1 x2 kn M = some r0) : J C 117 2194 M 40 [(0, .ref b), (1, rf x1), (2, .int x2)] [] := by
  unfold fL_A at h
  refine J_iload_n (j := 2) hC dL_law_40 rfl ?_
  refine J_bipush (v := 40) hC dL_law_41 (by decide) ?_
  refine J_icmp_ge (tgt := 260) hC dL_law_43 (by decide) (fun c1 => ?_) (fun c1 => ?_)
  · have h := ite_t c1 h
    refine J_iconst (v := 1) hC dL_law_260 (by decide) ?_
    exact J_zret hC dL_law_261 (by decide) (by have h9 := Option.some.inj h; subst h9; rfl) (Nat.le_of_ble_eq_true rfl) (Nat.le_of_ble_eq_true rfl)
  · have h := ite_f c1 h
    refine J_aloadQ_n (j := 0) hC dL_law_46 rfl ?_
    refine J_iconst (v := 2) hC dL_law_47 (by decide) ?_
    refine J_iload_n (j := 2) hC dL_law_48 rfl ?_
    refine J_imul hC dL_law_49 ?_
    refine bnd_c h (fun w2 hw h => ?_)
    refine J_callSc (As := [.ref b, .int (2 * x2)]) (M' := M) (rv := some (Value.int w2)) (st := []) hC hSc (fun l hl => cL_cell_ok xs L M b (2 * x2) _ hw l hl) sm_L_cell k_L_84 rfl ⟨Nat.le_of_ble_eq_true rfl, Nat.le_of_ble_eq_true rfl⟩ (Nat.zero_le _) ⟨Nat.le_of_ble_eq_true rfl, Nat.le_of_ble_eq_true rfl⟩ dL_law_50 rfl ?_
    refine J_istore_n (i := 3) (lv' := [(3, .int w2), (0, .ref b), (1, rf x1), (2, .int x2)]) rfl hC dL_law_53 (by decide) rfl ?_
    refine J_aloadQ_n (j := 1) hC dL_law_54 rfl ?_
    refine J_iconst (v := 2) hC dL_law_55 (by decide) ?_
    refine J_iload_n (j := 3) hC dL_law_56 rfl ?_
    refine J_imul hC dL_law_57 ?_
    refine J_iconst (v := 1) hC dL_law_58 (by decide) ?_
    refine J_iadd hC dL_law_59 ?_
    refine bnd_c h (fun w3 hw h => ?_)
    refine J_callSc (As := [.ref b, .int ((2 * x2) + 1)]) (M' := M) (rv := some (Value.int w3)) (st := []) hC hSc (fun l hl => cL_cell_ok xs L M b ((2 * x2) + 1) _ hw l hl) sm_L_cell k_L_84 rfl ⟨Nat.le_of_ble_eq_true rfl, Nat.le_of_ble_eq_true rfl⟩ (Nat.zero_le _) ⟨Nat.le_of_ble_eq_true rfl, Nat.le_of_ble_eq_true rfl⟩ dL_law_60 rfl ?_
    refine J_istore (lv' := [(4, .int w3), (3, .int w2), (0, .ref b), (1, rf x1), (2, .int x2)]) hC dL_law_63 (by decide) rfl ?_
    refine J_aload_n (j := 3) hC dL_law_65 rfl ?_
    refine J_bipush (v := 7) hC dL_law_66 (by decide) ?_
    refine ck_c h (fun ho h => ?_)
    refine bnd_c h (fun w4 hw h => ?_)
    refine J_callV (As := [.int 7]) (M' := M) (rv := some (Value.int w4)) (st := []) hC (fun l hl => cX2_count_ok M x1 7 _ hw l hl) vm_X2_count k_L_12 ho ⟨rfl, rfl⟩ rfl ⟨Nat.le_of_ble_eq_true rfl, Nat.le_of_ble_eq_true rfl⟩ (Nat.zero_le _) ⟨Nat.le_of_ble_eq_true rfl, Nat.le_of_ble_eq_true rfl⟩ dL_law_68 rfl ?_
    refine J_bipush (v := 6) hC dL_law_71 (by decide) ?_
    refine J_icmp_ne (tgt := 86) hC dL_law_73 (by decide) (fun c5 => ?_) (fun c5 => ?_)
    · have h := ite_f c5 h
      refine J_sub [2, 3, 4, 1, 0] rfl ?_
      exact hk M w2 w3 h
    · have h := ite_t c5 h
      refine J_aload_n (j := 3) hC dL_law_76 rfl ?_
      refine ck_c h (fun ho h => ?_)
      refine bnd_c h (fun w6 hw h => ?_)
      refine J_callV (As := []) (M' := w6.1) (rv := some (Value.int w6.2)) (st := []) hC (fun l hl => cX2_undo_ok M x1 _ hw l hl) vm_X2_undo k_L_88 ho ⟨rfl, rfl⟩ rfl ⟨Nat.le_of_ble_eq_true rfl, Nat.le_of_ble_eq_true rfl⟩ (Nat.zero_le _) ⟨Nat.le_of_ble_eq_true rfl, Nat.le_of_ble_eq_true rfl⟩ dL_law_77 rfl ?_
      refine J_pop hC dL_law_80 rfl ?_
      refine J_aload_n (j := 3) hC dL_law_81 rfl ?_
      refine ck_c h (fun ho h => ?_)
      refine bnd_c h (fun w7 hw h => ?_)
      refine J_callV (As := []) (M' := w7.1) (rv := some (Value.int w7.2)) (st := []) hC (fun l hl => cX2_undo_ok w6.1 x1 _ hw l hl) vm_X2_undo k_L_88 ho ⟨rfl, rfl⟩ rfl ⟨Nat.le_of_ble_eq_true rfl, Nat.le_of_ble_eq_true rfl⟩ (Nat.zero_le _) ⟨Nat.le_of_ble_eq_true rfl, Nat.le_of_ble_eq_true rfl⟩ dL_law_82 rfl ?_
      refine J_pop hC dL_law_85 rfl ?_
      refine J_sub [2, 3, 4, 1, 0] rfl ?_
      exact hk w7.1 w2 w3 h
set_option maxHeartbeats 4000000 in
set_option maxRecDepth 100000 in
theorem tL_B {C : JC} {r0 : Mem × Int32} {b : Nat} (xs : Nat → Int32) (L : Nat) (x1 : Option Nat) (hC : Ok C false cL_law 12 room_1 (some .boolean) RL (r0.1, Sum.inr (some (Value.int r0.2)))) (hSc : ScOK C b L xs) (x2 : Int32) (x3 : Int32) (x4 : Int32) (kn : Mem → Int32 → Int64 → Int32 → Int64 → Option (Mem × Int32)) (hk : ∀ (M : Mem) (x5 : Int32) (x7 : Int64) (x9 : Int32) (x10 : Int64), kn M x5 x7 x9 x10 = some r0 → J C 117 2194 M 178 [(0, .ref b), (1, rf x1), (2, .int x2), (3, .int x3), (4, .int x4), (5, .int x5), (7, .long x7), (9, .int x9), (10, .long x10)] []) (M : Mem) (h : fL_B x1 x2 x3 x4 kn M = some r0) : J C 117 2194 M 86 [(0, .ref b), (1, rf x1), (2, .int x2), (3, .int x3), (4, .int x4)] [] := by
  unfold fL_B at h
  refine J_aload_n (j := 1) hC dL_law_86 rfl ?_
  refine J_bipush (v := 7) hC dL_law_87 (by decide) ?_
  refine ck_c h (fun ho h => ?_)
  refine bnd_c h (fun w1 hw h => ?_)
  refine J_callV (As := [.int 7]) (M' := M) (rv := some (Value.int w1)) (st := []) hC (fun l hl => cX2_count_ok M x1 7 _ hw l hl) vm_X2_count k_L_12 ho ⟨rfl, rfl⟩ rfl ⟨Nat.le_of_ble_eq_true rfl, Nat.le_of_ble_eq_true rfl⟩ (Nat.zero_le _) ⟨Nat.le_of_ble_eq_true rfl, Nat.le_of_ble_eq_true rfl⟩ dL_law_89 rfl ?_
  refine J_istore (lv' := [(5, .int w1), (0, .ref b), (1, rf x1), (2, .int x2), (3, .int x3), (4, .int x4)]) hC dL_law_92 (by decide) rfl ?_
  refine J_aload_n (j := 2) hC dL_law_94 rfl ?_
  refine J_iconst (v := 4) hC dL_law_95 (by decide) ?_
  refine ck_c h (fun ho h => ?_)
  refine bnd_c h (fun w2 hw h => ?_)
  refine J_callV (As := [.int 4]) (M' := M) (rv := some (Value.int w2)) (st := []) hC (fun l hl => cX2_count_ok M x1 4 _ hw l hl) vm_X2_count k_L_12 ho ⟨rfl, rfl⟩ rfl ⟨Nat.le_of_ble_eq_true rfl, Nat.le_of_ble_eq_true rfl⟩ (Nat.zero_le _) ⟨Nat.le_of_ble_eq_true rfl, Nat.le_of_ble_eq_true rfl⟩ dL_law_96 rfl ?_
  refine J_istore (lv' := [(6, .int w2), (5, .int w1), (0, .ref b), (1, rf x1), (2, .int x2), (3, .int x3), (4, .int x4)]) hC dL_law_99 (by decide) rfl ?_
  refine J_aload_n (j := 3) hC dL_law_101 rfl ?_
  refine bnd_c h (fun w3 hw h => ?_)
  refine J_callS (As := [rf x1]) (M' := w3.1) (rv := some (Value.long w3.2)) (st := []) hC (fun l hl => cL_told_ok M x1 _ hw l hl) sm_L_told k_L_91 rfl ⟨Nat.le_of_ble_eq_true rfl, Nat.le_of_ble_eq_true rfl⟩ (Nat.zero_le _) ⟨Nat.le_of_ble_eq_true rfl, Nat.le_of_ble_eq_true rfl⟩ dL_law_102 rfl ?_
  refine J_lstore (lv' := [(7, .long w3.2), (6, .int w2), (5, .int w1), (0, .ref b), (1, rf x1), (2, .int x2), (3, .int x3), (4, .int x4)]) hC dL_law_105 (by decide) rfl ?_
  refine J_aload_n (j := 4) hC dL_law_107 rfl ?_
  refine J_iload_n (j := 6) hC dL_law_108 rfl ?_
  refine J_iload (j := 7) hC dL_law_109 rfl ?_
  refine bnd_c h (fun w4 hw h => ?_)
  refine J_callS (As := [rf x1, .int x3, .int x4]) (M' := w4.1) (rv := some (Value.int w4.2)) (st := []) hC (fun l hl => cL_act_ok w3.1 x1 x3 x4 _ hw l hl) sm_L_act k_L_95 rfl ⟨Nat.le_of_ble_eq_true rfl, Nat.le_of_ble_eq_true rfl⟩ (Nat.zero_le _) ⟨Nat.le_of_ble_eq_true rfl, Nat.le_of_ble_eq_true rfl⟩ dL_law_111 rfl ?_
  refine J_istore (lv' := [(9, .int w4.2), (7, .long w3.2), (6, .int w2), (5, .int w1), (0, .ref b), (1, rf x1), (2, .int x2), (3, .int x3), (4, .int x4)]) hC dL_law_114 (by decide) rfl ?_
  refine J_aload_n (j := 5) hC dL_law_116 rfl ?_
  refine bnd_c h (fun w5 hw h => ?_)
  refine J_callS (As := [rf x1]) (M' := w5.1) (rv := some (Value.long w5.2)) (st := []) hC (fun l hl => cL_told_ok w4.1 x1 _ hw l hl) sm_L_told k_L_91 rfl ⟨Nat.le_of_ble_eq_true rfl, Nat.le_of_ble_eq_true rfl⟩ (Nat.zero_le _) ⟨Nat.le_of_ble_eq_true rfl, Nat.le_of_ble_eq_true rfl⟩ dL_law_117 rfl ?_
  refine J_lstore (lv' := [(10, .long w5.2), (9, .int w4.2), (7, .long w3.2), (6, .int w2), (5, .int w1), (0, .ref b), (1, rf x1), (2, .int x2), (3, .int x3), (4, .int x4)]) hC dL_law_120 (by decide) rfl ?_
  refine J_aload_n (j := 6) hC dL_law_122 rfl ?_
  refine J_bipush (v := 7) hC dL_law_123 (by decide) ?_
  refine ck_c h (fun ho h => ?_)
  refine bnd_c h (fun w6 hw h => ?_)
  refine J_callV (As := [.int 7]) (M' := w5.1) (rv := some (Value.int w6)) (st := []) hC (fun l hl => cX2_count_ok w5.1 x1 7 _ hw l hl) vm_X2_count k_L_12 ho ⟨rfl, rfl⟩ rfl ⟨Nat.le_of_ble_eq_true rfl, Nat.le_of_ble_eq_true rfl⟩ (Nat.zero_le _) ⟨Nat.le_of_ble_eq_true rfl, Nat.le_of_ble_eq_true rfl⟩ dL_law_125 rfl ?_
  refine J_iload (j := 4) hC dL_law_128 rfl ?_
  refine J_iconst (v := 1) hC dL_law_130 (by decide) ?_
  refine J_iadd hC dL_law_131 ?_
  refine J_icmp_ne (tgt := 176) hC dL_law_132 (by decide) (fun c7 => ?_) (fun c7 => ?_)
  · have h := ite_f c7 h
    cases h
  · have h := ite_t c7 h
    refine J_iload_n (j := 8) hC dL_law_135 rfl ?_
    refine J_bipush (v := 15) hC dL_law_136 (by decide) ?_
    refine J_iand hC dL_law_138 ?_
    refine J_bipush (v := 6) hC dL_law_139 (by decide) ?_
    refine J_icmp_le (tgt := 178) hC dL_law_141 (by decide) (fun c8 => ?_) (fun c8 => ?_)
    · have h := ite_t c8 h
      refine J_sub [5, 6, 7, 8, 9, 4, 2, 1, 0] rfl ?_
      exact hk w5.1 w1 w3.2 w4.2 w5.2 h
    · have h := ite_f c8 h
      refine J_iload_n (j := 8) hC dL_law_144 rfl ?_
      refine J_bipush (v := 15) hC dL_law_145 (by decide) ?_
      refine J_iand hC dL_law_147 ?_
      refine J_bipush (v := 10) hC dL_law_148 (by decide) ?_
      refine J_icmp_ge (tgt := 178) hC dL_law_150 (by decide) (fun c9 => ?_) (fun c9 => ?_)
      · have h := ite_t c9 h
        refine J_sub [5, 6, 7, 8, 9, 4, 2, 1, 0] rfl ?_
        exact hk w5.1 w1 w3.2 w4.2 w5.2 h
      · have h := ite_f c9 h
        refine J_aload_n (j := 6) hC dL_law_153 rfl ?_
        refine J_iconst (v := 4) hC dL_law_154 (by decide) ?_
        refine ck_c h (fun ho h => ?_)
        refine bnd_c h (fun w10 hw h => ?_)
        refine J_callV (As := [.int 4]) (M' := w5.1) (rv := some (Value.int w10)) (st := []) hC (fun l hl => cX2_count_ok w5.1 x1 4 _ hw l hl) vm_X2_count k_L_12 ho ⟨rfl, rfl⟩ rfl ⟨Nat.le_of_ble_eq_true rfl, Nat.le_of_ble_eq_true rfl⟩ (Nat.zero_le _) ⟨Nat.le_of_ble_eq_true rfl, Nat.le_of_ble_eq_true rfl⟩ dL_law_155 rfl ?_
        refine J_iload (j := 3) hC dL_law_158 rfl ?_
        refine J_iload (j := 1) hC dL_law_160 rfl ?_
        refine J_bipush (v := (-9)) hC dL_law_162 (by decide) ?_
        have hj : ∀ (z12 : Int32), z12 = (if w4.2 = (-9) then 0 else 1) → J C 117 2194 w5.1 172 [(10, .long w5.2), (9, .int w4.2), (7, .long w3.2), (6, .int w2), (5, .int w1), (0, .ref b), (1, rf x1), (2, .int x2), (3, .int x3), (4, .int x4)] [.int z12, .int w2, .int w10] := by
          intro z12 ez12
          subst ez12
          refine J_iadd hC dL_law_172 ?_
          refine J_icmp_eq (tgt := 178) hC dL_law_173 (by decide) (fun c11 => ?_) (fun c11 => ?_)
          · have h := ite_t c11 h
            refine J_sub [5, 6, 7, 8, 9, 4, 2, 1, 0] rfl ?_
            exact hk w5.1 w1 w3.2 w4.2 w5.2 h
          · have h := ite_f c11 h
            cases h
        refine J_icmp_ne (tgt := 171) hC dL_law_164 (by decide) (fun c13 => ?_) (fun c13 => ?_)
        · refine J_iconst (v := 1) hC dL_law_171 (by decide) ?_
          refine J_sub [0, 1, 2, 3, 4, 5, 6, 7, 8, 9] rfl ?_
          exact hj _ (if_neg c13).symm
        · refine J_iconst (v := 0) hC dL_law_167 (by decide) ?_
          refine J_goto (tgt := 172) hC dL_law_168 (by decide) ?_
          refine J_sub [0, 1, 2, 3, 4, 5, 6, 7, 8, 9] rfl ?_
          exact hj _ (if_pos c13).symm
set_option maxHeartbeats 4000000 in
set_option maxRecDepth 100000 in
theorem tL_C {C : JC} {r0 : Mem × Int32} {b : Nat} (xs : Nat → Int32) (L : Nat) (x1 : Option Nat) (hC : Ok C false cL_law 12 room_1 (some .boolean) RL (r0.1, Sum.inr (some (Value.int r0.2)))) (hSc : ScOK C b L xs) (x2 : Int32) (x3 : Int32) (x4 : Int32) (x5 : Int32) (x7 : Int64) (x9 : Int32) (x10 : Int64) (kn : Mem → Option (Mem × Int32)) (hk : ∀ (M : Mem) , kn M  = some r0 → J C 117 2194 M 230 [(0, .ref b), (1, rf x1), (2, .int x2), (3, .int x3), (4, .int x4)] []) (M : Mem) (h : fL_C x1 x2 x3 x4 x5 x7 x9 x10 kn M = some r0) : J C 117 2194 M 178 [(0, .ref b), (1, rf x1), (2, .int x2), (3, .int x3), (4, .int x4), (5, .int x5), (7, .long x7), (9, .int x9), (10, .long x10)] [] := by
  unfold fL_C at h
  refine J_iload_n (j := 3) hC dL_law_178 rfl ?_
  refine J_bipush (v := 10) hC dL_law_179 (by decide) ?_
  refine J_ishr hC dL_law_181 ?_
  refine J_iconst (v := 1) hC dL_law_182 (by decide) ?_
  refine J_iand hC dL_law_183 ?_
  refine J_if_ne (tgt := 230) hC dL_law_184 (by decide) (fun c1 => ?_) (fun c1 => ?_)
  · have h := ite_f c1 h
    refine J_sub [0, 1, 2, 3, 4] rfl ?_
    exact hk M h
  · have h := ite_t c1 h
    refine J_aload_n (j := 1) hC dL_law_187 rfl ?_
    refine ck_c h (fun ho h => ?_)
    refine bnd_c h (fun w2 hw h => ?_)
    refine J_callV (As := []) (M' := w2.1) (rv := some (Value.int w2.2)) (st := []) hC (fun l hl => cX2_undo_ok M x1 _ hw l hl) vm_X2_undo k_L_88 ho ⟨rfl, rfl⟩ rfl ⟨Nat.le_of_ble_eq_true rfl, Nat.le_of_ble_eq_true rfl⟩ (Nat.zero_le _) ⟨Nat.le_of_ble_eq_true rfl, Nat.le_of_ble_eq_true rfl⟩ dL_law_188 rfl ?_
    refine J_iload (j := 5) hC dL_law_191 rfl ?_
    refine J_icmp_ne (tgt := 228) hC dL_law_193 (by decide) (fun c3 => ?_) (fun c3 => ?_)
    · have h := ite_f c3 h
      cases h
    · have h := ite_t c3 h
      refine J_aload_n (j := 1) hC dL_law_196 rfl ?_
      refine bnd_c h (fun w4 hw h => ?_)
      refine J_callS (As := [rf x1]) (M' := w4.1) (rv := some (Value.long w4.2)) (st := []) hC (fun l hl => cL_told_ok w2.1 x1 _ hw l hl) sm_L_told k_L_91 rfl ⟨Nat.le_of_ble_eq_true rfl, Nat.le_of_ble_eq_true rfl⟩ (Nat.zero_le _) ⟨Nat.le_of_ble_eq_true rfl, Nat.le_of_ble_eq_true rfl⟩ dL_law_197 rfl ?_
      refine J_lload (j := 6) hC dL_law_200 rfl ?_
      refine J_lcmp hC dL_law_202 ?_
      refine J_if_ne (tgt := 228) hC dL_law_203 (by decide) (fun c5 => ?_) (fun c5 => ?_)
      · have h := ite_f c5 h
        cases h
      · have h := ite_t c5 h
        refine J_aload_n (j := 1) hC dL_law_206 rfl ?_
        refine J_iload_n (j := 3) hC dL_law_207 rfl ?_
        refine J_iload (j := 4) hC dL_law_208 rfl ?_
        refine bnd_c h (fun w6 hw h => ?_)
        refine J_callS (As := [rf x1, .int x3, .int x4]) (M' := w6.1) (rv := some (Value.int w6.2)) (st := []) hC (fun l hl => cL_act_ok w4.1 x1 x3 x4 _ hw l hl) sm_L_act k_L_95 rfl ⟨Nat.le_of_ble_eq_true rfl, Nat.le_of_ble_eq_true rfl⟩ (Nat.zero_le _) ⟨Nat.le_of_ble_eq_true rfl, Nat.le_of_ble_eq_true rfl⟩ dL_law_210 rfl ?_
        refine J_iload (j := 7) hC dL_law_213 rfl ?_
        refine J_icmp_ne (tgt := 228) hC dL_law_215 (by decide) (fun c7 => ?_) (fun c7 => ?_)
        · have h := ite_f c7 h
          cases h
        · have h := ite_t c7 h
          refine J_aload_n (j := 1) hC dL_law_218 rfl ?_
          refine bnd_c h (fun w8 hw h => ?_)
          refine J_callS (As := [rf x1]) (M' := w8.1) (rv := some (Value.long w8.2)) (st := []) hC (fun l hl => cL_told_ok w6.1 x1 _ hw l hl) sm_L_told k_L_91 rfl ⟨Nat.le_of_ble_eq_true rfl, Nat.le_of_ble_eq_true rfl⟩ (Nat.zero_le _) ⟨Nat.le_of_ble_eq_true rfl, Nat.le_of_ble_eq_true rfl⟩ dL_law_219 rfl ?_
          refine J_lload (j := 8) hC dL_law_222 rfl ?_
          refine J_lcmp hC dL_law_224 ?_
          refine J_if_eq (tgt := 230) hC dL_law_225 (by decide) (fun c9 => ?_) (fun c9 => ?_)
          · have h := ite_t c9 h
            refine J_sub [0, 1, 2, 3, 4] rfl ?_
            exact hk w8.1 h
          · have h := ite_f c9 h
            cases h
set_option maxHeartbeats 4000000 in
set_option maxRecDepth 100000 in
theorem tL_D {C : JC} {r0 : Mem × Int32} {b : Nat} (xs : Nat → Int32) (L : Nat) (x1 : Option Nat) (hC : Ok C false cL_law 12 room_1 (some .boolean) RL (r0.1, Sum.inr (some (Value.int r0.2)))) (hSc : ScOK C b L xs) (x2 : Int32) (x3 : Int32) (x4 : Int32) (kn : Mem → Int32 → Option (Mem × Int32)) (hk : ∀ (M : Mem) (x2 : Int32), kn M x2 = some r0 → J C 117 2194 M 40 [(0, .ref b), (1, rf x1), (2, .int x2)] []) (M : Mem) (h : fL_D x1 x2 x3 x4 kn M = some r0) : J C 117 2194 M 230 [(0, .ref b), (1, rf x1), (2, .int x2), (3, .int x3), (4, .int x4)] [] := by
  unfold fL_D at h
  refine J_aload_n (j := 1) hC dL_law_230 rfl ?_
  refine J_iload_n (j := 3) hC dL_law_231 rfl ?_
  refine J_iconst (v := 4) hC dL_law_232 (by decide) ?_
  refine J_ishr hC dL_law_233 ?_
  refine J_iconst (v := 5) hC dL_law_234 (by decide) ?_
  refine bnd_c h (fun w1 hw h => ?_)
  refine J_callS (As := [.int (x3 >>> ((4 : Int32) &&& 31)), .int 5]) (M' := M) (rv := some (Value.int w1)) (st := [rf x1]) hC (fun l hl => cL_low_ok M (x3 >>> ((4 : Int32) &&& 31)) 5 _ hw l hl) sm_L_low k_L_26 rfl ⟨Nat.le_of_ble_eq_true rfl, Nat.le_of_ble_eq_true rfl⟩ (Nat.le_of_ble_eq_true rfl) ⟨Nat.le_of_ble_eq_true rfl, Nat.le_of_ble_eq_true rfl⟩ dL_law_235 rfl ?_
  refine J_iload (j := 4) hC dL_law_238 rfl ?_
  refine J_iconst (v := 5) hC dL_law_240 (by decide) ?_
  refine J_ishr hC dL_law_241 ?_
  refine J_iconst (v := 5) hC dL_law_242 (by decide) ?_
  refine bnd_c h (fun w2 hw h => ?_)
  refine J_callS (As := [.int (x4 >>> ((5 : Int32) &&& 31)), .int 5]) (M' := M) (rv := some (Value.int w2)) (st := [.int w1, rf x1]) hC (fun l hl => cL_low_ok M (x4 >>> ((5 : Int32) &&& 31)) 5 _ hw l hl) sm_L_low k_L_26 rfl ⟨Nat.le_of_ble_eq_true rfl, Nat.le_of_ble_eq_true rfl⟩ (Nat.le_of_ble_eq_true rfl) ⟨Nat.le_of_ble_eq_true rfl, Nat.le_of_ble_eq_true rfl⟩ dL_law_243 rfl ?_
  refine bnd_c h (fun w3 hw h => ?_)
  refine J_callS (As := [rf x1, .int w1, .int w2]) (M' := w3.1) (rv := some (Value.int w3.2)) (st := []) hC (fun l hl => cL_holds_ok M x1 w1 w2 _ hw l hl) sm_L_holds k_L_99 rfl ⟨Nat.le_of_ble_eq_true rfl, Nat.le_of_ble_eq_true rfl⟩ (Nat.zero_le _) ⟨Nat.le_of_ble_eq_true rfl, Nat.le_of_ble_eq_true rfl⟩ dL_law_246 rfl ?_
  refine J_if_ne (tgt := 254) hC dL_law_249 (by decide) (fun c4 => ?_) (fun c4 => ?_)
  · have h := ite_f c4 h
    refine J_inc (j := 2) (k := 1) (lv' := [(2, .int (x2 + 1)), (0, .ref b), (1, rf x1), (3, .int x3), (4, .int x4)]) hC dL_law_254 (by decide) rfl (by decide) rfl ?_
    refine J_goto (tgt := 40) hC dL_law_257 (by decide) ?_
    refine J_sub [1, 2, 0] rfl ?_
    exact hk w3.1 (x2 + 1) h
  · have h := ite_t c4 h
    cases h
/-- the law's loop: a turn is four pieces -/
def fL_loop (xs : Nat → Int32) (L : Nat) (x1 : Option Nat) : Nat → Mem → Int32 → Option (Mem × Int32)
  | 0, _, _ => none
  | n + 1, M, x2 => fL_A xs L x1 x2 (fun M x3 x4 => fL_B x1 x2 x3 x4 (fun M x5 x7 x9 x10 => fL_C x1 x2 x3 x4 x5 x7 x9 x10 (fun M => fL_D x1 x2 x3 x4 (fun M x2 => fL_loop xs L x1 n M x2) M) M) M) M
theorem tL_loop {C : JC} {r0 : Mem × Int32} {b : Nat} (xs : Nat → Int32) (L : Nat) (x1 : Option Nat) (hC : Ok C false cL_law 12 room_1 (some .boolean) RL (r0.1, Sum.inr (some (Value.int r0.2)))) (hSc : ScOK C b L xs) : ∀ (n : Nat) (M : Mem) (x2 : Int32), fL_loop xs L x1 n M x2 = some r0 → J C 117 2194 M 40 [(0, .ref b), (1, rf x1), (2, .int x2)] [] := by
  intro n
  induction n with
  | zero => intro M x2 h; have h : none = some r0 := h; cases h
  | succ n ih =>
    intro M x2 h
    rw [fL_loop] at h
    exact tL_A xs L x1 hC hSc x2 _ (fun M x3 x4 h => tL_B xs L x1 hC hSc x2 x3 x4 _ (fun M x5 x7 x9 x10 h => tL_C xs L x1 hC hSc x2 x3 x4 x5 x7 x9 x10 _ (fun M h => tL_D xs L x1 hC hSc x2 x3 x4 _ (fun M x2 h => ih M x2 h) M h) M h) M h) M h
/-- nothing is made yet -/
def M0 : Mem := (0, fun _ _ => 0, fun _ _ => 0, fun _ _ => none, fun _ _ => 0)
def fL_law (xs : Nat → Int32) (L : Nat) : Option (Mem × Int32) :=
  (nwO 2 M0).bind fun M1 =>
  (fX2_init M1 (some M0.1)).bind fun w2 =>
  (ck 2 w2 (some M0.1)).bind fun _ =>
  (fX2_keep w2 (some M0.1) 0).bind fun w3 =>
  if w3.2 = 0 then
    (ck 2 w3.1 (some M0.1)).bind fun _ =>
    (fX2_takenShare w3.1 (some M0.1) 0).bind fun w5 =>
    if (Op.cmpValue (FP.dcmp w5 FP.dconst1) .l) = 0 then
      (ck 2 w3.1 (some M0.1)).bind fun _ =>
      (fX2_coefficient w3.1 (some M0.1) 0).bind fun w7 =>
      if (lg_cmp w7.2 1) = 0 then
        fL_loop xs L (some M0.1) FU w7.1 0
      else
        none
    else
      none
  else
    none
set_option maxHeartbeats 4000000 in
set_option maxRecDepth 100000 in
theorem tL_entry {C : JC} {r0 : Mem × Int32} {b : Nat} (xs : Nat → Int32) (L : Nat) (hC : Ok C false cL_law 12 room_1 (some .boolean) RL (r0.1, Sum.inr (some (Value.int r0.2)))) (hSc : ScOK C b L xs) (h : fL_law xs L = some r0) : J C 0 0 M0 0 [(0, .ref b)] [] := by
  unfold fL_law at h
  refine J_new2 hC k_L_13 (Nat.le_of_ble_eq_true rfl) (Nat.le_of_ble_eq_true rfl) dL_law_0 h (fun M1 _ h => ?_)
  refine J_dup hC dL_law_3 rfl ?_
  refine bnd_c h (fun w2 hw h => ?_)
  refine J_callI (As := []) (M' := w2) (rv := none) (st := [rf (some M0.1)]) hC (fun l hl => cX2_init_ok M1 (some M0.1) _ hw l hl) im_X2_init k_L_80 ⟨_, rfl⟩ rfl ⟨Nat.le_of_ble_eq_true rfl, Nat.le_of_ble_eq_true rfl⟩ (Nat.le_of_ble_eq_true rfl) ⟨Nat.le_of_ble_eq_true rfl, Nat.le_of_ble_eq_true rfl⟩ dL_law_4 rfl ?_
  refine J_astore_n (i := 1) (lv' := [(1, rf (some M0.1)), (0, .ref b)]) rfl hC dL_law_7 (by decide) rfl ?_
  refine J_aload_n (j := 0) hC dL_law_8 rfl ?_
  refine J_iconst (v := 0) hC dL_law_9 (by decide) ?_
  refine ck_c h (fun ho h => ?_)
  refine bnd_c h (fun w3 hw h => ?_)
  refine J_callV (As := [.int 0]) (M' := w3.1) (rv := some (Value.int w3.2)) (st := []) hC (fun l hl => cX2_keep_ok w2 (some M0.1) 0 _ hw l hl) vm_X2_keep k_L_81 ho ⟨rfl, rfl⟩ rfl ⟨Nat.le_of_ble_eq_true rfl, Nat.le_of_ble_eq_true rfl⟩ (Nat.zero_le _) ⟨Nat.le_of_ble_eq_true rfl, Nat.le_of_ble_eq_true rfl⟩ dL_law_10 rfl ?_
  refine J_if_ne (tgt := 36) hC dL_law_13 (by decide) (fun c4 => ?_) (fun c4 => ?_)
  · have h := ite_f c4 h
    cases h
  · have h := ite_t c4 h
    refine J_aload_n (j := 0) hC dL_law_16 rfl ?_
    refine J_iconst (v := 0) hC dL_law_17 (by decide) ?_
    refine ck_c h (fun ho h => ?_)
    refine bnd_c h (fun w5 hw h => ?_)
    refine J_callV (As := [.int 0]) (M' := w3.1) (rv := some (Value.double w5)) (st := []) hC (fun l hl => cX2_takenShare_ok w3.1 (some M0.1) 0 _ hw l hl) vm_X2_takenShare k_L_76 ho ⟨rfl, rfl⟩ rfl ⟨Nat.le_of_ble_eq_true rfl, Nat.le_of_ble_eq_true rfl⟩ (Nat.zero_le _) ⟨Nat.le_of_ble_eq_true rfl, Nat.le_of_ble_eq_true rfl⟩ dL_law_18 rfl ?_
    refine J_dconst1 hC dL_law_21 ?_
    refine J_dcmp hC dL_law_22 ?_
    refine J_if_ne (tgt := 36) hC dL_law_23 (by decide) (fun c6 => ?_) (fun c6 => ?_)
    · have h := ite_f c6 h
      cases h
    · have h := ite_t c6 h
      refine J_aload_n (j := 0) hC dL_law_26 rfl ?_
      refine J_iconst (v := 0) hC dL_law_27 (by decide) ?_
      refine ck_c h (fun ho h => ?_)
      refine bnd_c h (fun w7 hw h => ?_)
      refine J_callV (As := [.int 0]) (M' := w7.1) (rv := some (Value.long w7.2)) (st := []) hC (fun l hl => cX2_coefficient_ok w3.1 (some M0.1) 0 _ hw l hl) vm_X2_coefficient k_L_22 ho ⟨rfl, rfl⟩ rfl ⟨Nat.le_of_ble_eq_true rfl, Nat.le_of_ble_eq_true rfl⟩ (Nat.zero_le _) ⟨Nat.le_of_ble_eq_true rfl, Nat.le_of_ble_eq_true rfl⟩ dL_law_28 rfl ?_
      refine J_lconst (v := 1) hC dL_law_31 (by decide) ?_
      refine J_lcmp hC dL_law_32 ?_
      refine J_if_eq (tgt := 38) hC dL_law_33 (by decide) (fun c8 => ?_) (fun c8 => ?_)
      · have h := ite_t c8 h
        refine J_iconst (v := 0) hC dL_law_38 (by decide) ?_
        refine J_istore_n (i := 2) (lv' := [(2, .int 0), (1, rf (some M0.1)), (0, .ref b)]) rfl hC dL_law_39 (by decide) rfl ?_
        refine J_sub [2, 1, 0] rfl ?_
        exact tL_loop xs L (some M0.1) hC hSc FU w7.1 0 h
      · have h := ite_f c8 h
        cases h
