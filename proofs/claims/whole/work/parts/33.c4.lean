set_option maxHeartbeats 4000000 in
set_option maxRecDepth 100000 in
theorem tX2_mixedPolynomial_79 {C : JC} {r0 : Mem × Int64} (x0 : Option Nat) (x1 : Int64) (x3 : Option Nat) (hC : Ok C false cX2_mixedPolynomial 9 rm_X2_mixedPolynomial (some .long) RX2 (r0.1, Sum.inr (some (Value.long r0.2))))  (k186 : Mem → Int64 → Int32 → Option (Mem × Int64)) (hk186 : ∀ (M : Mem) (x4 : Int64) (x6 : Int32), k186 M x4 x6 = some r0 → J C 0 0 M 186 [(0, rf x0), (1, .long x1), (3, rf x3), (4, .long x4), (6, .int x6)] []) : ∀ (n : Nat) (M : Mem) (x4 : Int64) (x6 : Int32), fX2_mixedPolynomial_79 x0 x1 x3 k186 n M x4 x6 = some r0 → J C 0 0 M 79 [(0, rf x0), (1, .long x1), (3, rf x3), (4, .long x4), (6, .int x6)] [] := by
  intro n
  induction n with
  | zero => intro M x4 x6 h; have h : none = some r0 := h; cases h
  | succ n ih =>
    intro M x4 x6 h
    rw [fX2_mixedPolynomial_79] at h
    refine J_iload (j := 4) hC dX2_mixedPolynomial_79 rfl ?_
    refine J_iconst (v := 1) hC dX2_mixedPolynomial_81 (by decide) ?_
    refine J_icmp_gt (tgt := 186) hC dX2_mixedPolynomial_82 (by decide) (fun c15 => ?_) (fun c15 => ?_)
    · have h := ite_t c15 h
      refine J_sub [0, 1, 2, 3, 4] rfl ?_
      exact hk186 M x4 x6 h
    · have h := ite_f c15 h
      refine J_aload_n (j := 2) hC dX2_mixedPolynomial_85 rfl ?_
      refine J_iload (j := 4) hC dX2_mixedPolynomial_86 rfl ?_
      refine J_aload_n (j := 0) hC dX2_mixedPolynomial_88 rfl ?_
      refine J_g2_8 hC k_X2_44 dX2_mixedPolynomial_89 h (fun v16 _ h => ?_)
      refine J_aload_n (j := 0) hC dX2_mixedPolynomial_92 rfl ?_
      refine J_g2_9 hC k_X2_51 dX2_mixedPolynomial_93 h (fun v17 _ h => ?_)
      refine J_iconst (v := 0) hC dX2_mixedPolynomial_96 (by decide) ?_
      refine bnd_c h (fun w18 hw h => ?_)
      refine J_callS (As := [rf x3, .int x6, rf v16, rf v17, .int 0]) (M' := w18.1) (rv := some (Value.int w18.2)) (st := []) hC (fun l hl => cX2_tryQuotients_ok M x3 x6 v16 v17 0 _ hw l hl) sm_X2_tryQuotients k_X2_90 rfl ⟨Nat.le_of_ble_eq_true rfl, Nat.le_of_ble_eq_true rfl⟩ (Nat.zero_le _) ⟨Nat.le_of_ble_eq_true rfl, Nat.le_of_ble_eq_true rfl⟩ dX2_mixedPolynomial_97 rfl ?_
      refine J_istore (lv' := [(7, .int w18.2), (0, rf x0), (1, .long x1), (3, rf x3), (4, .long x4), (6, .int x6)]) hC dX2_mixedPolynomial_100 (by decide) rfl ?_
      refine J_aload_n (j := 1) hC dX2_mixedPolynomial_102 rfl ?_
      refine J_iload (j := 0) hC dX2_mixedPolynomial_103 rfl ?_
      refine ck_c h (fun ho h => ?_)
      refine bnd_c h (fun w19 hw h => ?_)
      refine J_callV (As := [.int w18.2]) (M' := w18.1) (rv := some (Value.int w19)) (st := []) hC (fun l hl => cX2_bestForm_ok w18.1 x0 w18.2 _ hw l hl) vm_X2_bestForm k_X2_174 ho ⟨rfl, rfl⟩ rfl ⟨Nat.le_of_ble_eq_true rfl, Nat.le_of_ble_eq_true rfl⟩ (Nat.zero_le _) ⟨Nat.le_of_ble_eq_true rfl, Nat.le_of_ble_eq_true rfl⟩ dX2_mixedPolynomial_105 rfl ?_
      refine J_istore (lv' := [(8, .int w19), (7, .int w18.2), (0, rf x0), (1, .long x1), (3, rf x3), (4, .long x4), (6, .int x6)]) hC dX2_mixedPolynomial_108 (by decide) rfl ?_
      refine J_lload (j := 5) hC dX2_mixedPolynomial_110 rfl ?_
      refine J_aload_n (j := 4) hC dX2_mixedPolynomial_112 rfl ?_
      refine J_iload (j := 6) hC dX2_mixedPolynomial_113 rfl ?_
      refine bnd_c h (fun w20 hw h => ?_)
      refine J_callS (As := [rf x3, .int x6]) (M' := w18.1) (rv := some (Value.int w20)) (st := [.long x4]) hC (fun l hl => cX2_hasRoot_ok w18.1 x3 x6 _ hw l hl) sm_X2_hasRoot k_X2_165 rfl ⟨Nat.le_of_ble_eq_true rfl, Nat.le_of_ble_eq_true rfl⟩ (Nat.le_of_ble_eq_true rfl) ⟨Nat.le_of_ble_eq_true rfl, Nat.le_of_ble_eq_true rfl⟩ dX2_mixedPolynomial_115 rfl ?_
      have hj : ∀ (z28 : Int64), z28 = (if w20 = 0 then 0 else 1) → J C 0 0 w18.1 126 [(8, .int w19), (7, .int w18.2), (0, rf x0), (1, .long x1), (3, rf x3), (4, .long x4), (6, .int x6)] [.long z28, .long x4] := by
        intro z28 ez28
        subst ez28
        refine bnd_c h (fun w21 hw h => ?_)
        refine J_callS (As := [.long x4, .long (if w20 = 0 then 0 else 1)]) (M' := w18.1) (rv := some (Value.long w21)) (st := []) hC (fun l hl => cX2_mixed_ok w18.1 x4 (if w20 = 0 then 0 else 1) _ hw l hl) sm_X2_mixed k_X2_200 rfl ⟨Nat.le_of_ble_eq_true rfl, Nat.le_of_ble_eq_true rfl⟩ (Nat.zero_le _) ⟨Nat.le_of_ble_eq_true rfl, Nat.le_of_ble_eq_true rfl⟩ dX2_mixedPolynomial_126 rfl ?_
        refine J_lstore (lv' := [(4, .long w21), (8, .int w19), (7, .int w18.2), (0, rf x0), (1, .long x1), (3, rf x3), (6, .int x6)]) hC dX2_mixedPolynomial_129 (by decide) rfl ?_
        refine J_lload (j := 0) hC dX2_mixedPolynomial_131 rfl ?_
        refine J_iload (j := 2) hC dX2_mixedPolynomial_133 rfl ?_
        refine J_i2l hC dX2_mixedPolynomial_135 ?_
        refine bnd_c h (fun w22 hw h => ?_)
        refine J_callS (As := [.long w21, .long w18.2.toInt64]) (M' := w18.1) (rv := some (Value.long w22)) (st := []) hC (fun l hl => cX2_mixed_ok w18.1 w21 w18.2.toInt64 _ hw l hl) sm_X2_mixed k_X2_200 rfl ⟨Nat.le_of_ble_eq_true rfl, Nat.le_of_ble_eq_true rfl⟩ (Nat.zero_le _) ⟨Nat.le_of_ble_eq_true rfl, Nat.le_of_ble_eq_true rfl⟩ dX2_mixedPolynomial_136 rfl ?_
        refine J_lstore (lv' := [(4, .long w22), (8, .int w19), (7, .int w18.2), (0, rf x0), (1, .long x1), (3, rf x3), (6, .int x6)]) hC dX2_mixedPolynomial_139 (by decide) rfl ?_
        refine J_lload (j := 0) hC dX2_mixedPolynomial_141 rfl ?_
        refine J_aload_n (j := 5) hC dX2_mixedPolynomial_143 rfl ?_
        refine J_iload (j := 6) hC dX2_mixedPolynomial_144 rfl ?_
        refine bnd_c h (fun w23 hw h => ?_)
        refine J_callS (As := [rf x3, .int x6]) (M' := w18.1) (rv := some (Value.int w23)) (st := [.long w22]) hC (fun l hl => cX2_countedTimes_ok w18.1 x3 x6 _ hw l hl) sm_X2_countedTimes k_X2_168 rfl ⟨Nat.le_of_ble_eq_true rfl, Nat.le_of_ble_eq_true rfl⟩ (Nat.le_of_ble_eq_true rfl) ⟨Nat.le_of_ble_eq_true rfl, Nat.le_of_ble_eq_true rfl⟩ dX2_mixedPolynomial_146 rfl ?_
        refine J_i2l hC dX2_mixedPolynomial_149 ?_
        refine bnd_c h (fun w24 hw h => ?_)
        refine J_callS (As := [.long w22, .long w23.toInt64]) (M' := w18.1) (rv := some (Value.long w24)) (st := []) hC (fun l hl => cX2_mixed_ok w18.1 w22 w23.toInt64 _ hw l hl) sm_X2_mixed k_X2_200 rfl ⟨Nat.le_of_ble_eq_true rfl, Nat.le_of_ble_eq_true rfl⟩ (Nat.zero_le _) ⟨Nat.le_of_ble_eq_true rfl, Nat.le_of_ble_eq_true rfl⟩ dX2_mixedPolynomial_150 rfl ?_
        refine J_lstore (lv' := [(4, .long w24), (8, .int w19), (7, .int w18.2), (0, rf x0), (1, .long x1), (3, rf x3), (6, .int x6)]) hC dX2_mixedPolynomial_153 (by decide) rfl ?_
        refine J_lload (j := 0) hC dX2_mixedPolynomial_155 rfl ?_
        refine J_aload_n (j := 3) hC dX2_mixedPolynomial_157 rfl ?_
        refine J_aload_n (j := 5) hC dX2_mixedPolynomial_158 rfl ?_
        refine J_iload (j := 6) hC dX2_mixedPolynomial_159 rfl ?_
        refine ck_c h (fun ho h => ?_)
        refine bnd_c h (fun w25 hw h => ?_)
        refine J_callV (As := [rf x3, .int x6]) (M' := w25.1) (rv := some (Value.int w25.2)) (st := [.long w24]) hC (fun l hl => cX2_quotientsOf_ok w18.1 x0 x3 x6 _ hw l hl) vm_X2_quotientsOf k_X2_171 ho ⟨rfl, rfl⟩ rfl ⟨Nat.le_of_ble_eq_true rfl, Nat.le_of_ble_eq_true rfl⟩ (Nat.le_of_ble_eq_true rfl) ⟨Nat.le_of_ble_eq_true rfl, Nat.le_of_ble_eq_true rfl⟩ dX2_mixedPolynomial_161 rfl ?_
        refine J_i2l hC dX2_mixedPolynomial_164 ?_
        refine bnd_c h (fun w26 hw h => ?_)
        refine J_callS (As := [.long w24, .long w25.2.toInt64]) (M' := w25.1) (rv := some (Value.long w26)) (st := []) hC (fun l hl => cX2_mixed_ok w25.1 w24 w25.2.toInt64 _ hw l hl) sm_X2_mixed k_X2_200 rfl ⟨Nat.le_of_ble_eq_true rfl, Nat.le_of_ble_eq_true rfl⟩ (Nat.zero_le _) ⟨Nat.le_of_ble_eq_true rfl, Nat.le_of_ble_eq_true rfl⟩ dX2_mixedPolynomial_165 rfl ?_
        refine J_lstore (lv' := [(4, .long w26), (8, .int w19), (7, .int w18.2), (0, rf x0), (1, .long x1), (3, rf x3), (6, .int x6)]) hC dX2_mixedPolynomial_168 (by decide) rfl ?_
        refine J_lload (j := 0) hC dX2_mixedPolynomial_170 rfl ?_
        refine J_iload (j := 1) hC dX2_mixedPolynomial_172 rfl ?_
        refine J_i2l hC dX2_mixedPolynomial_174 ?_
        refine bnd_c h (fun w27 hw h => ?_)
        refine J_callS (As := [.long w26, .long w19.toInt64]) (M' := w25.1) (rv := some (Value.long w27)) (st := []) hC (fun l hl => cX2_mixed_ok w25.1 w26 w19.toInt64 _ hw l hl) sm_X2_mixed k_X2_200 rfl ⟨Nat.le_of_ble_eq_true rfl, Nat.le_of_ble_eq_true rfl⟩ (Nat.zero_le _) ⟨Nat.le_of_ble_eq_true rfl, Nat.le_of_ble_eq_true rfl⟩ dX2_mixedPolynomial_175 rfl ?_
        refine J_lstore (lv' := [(4, .long w27), (8, .int w19), (7, .int w18.2), (0, rf x0), (1, .long x1), (3, rf x3), (6, .int x6)]) hC dX2_mixedPolynomial_178 (by decide) rfl ?_
        refine J_inc (j := 6) (k := 1) (lv' := [(6, .int (x6 + 1)), (4, .long w27), (8, .int w19), (7, .int w18.2), (0, rf x0), (1, .long x1), (3, rf x3)]) hC dX2_mixedPolynomial_180 (by decide) rfl (by decide) rfl ?_
        refine J_goto (tgt := 79) hC dX2_mixedPolynomial_183 (by decide) ?_
        refine J_sub [4, 5, 6, 1, 0] rfl ?_
        exact ih w25.1 w27 (x6 + 1) h
      refine J_if_eq (tgt := 125) hC dX2_mixedPolynomial_118 (by decide) (fun c29 => ?_) (fun c29 => ?_)
      · refine J_lconst (v := 0) hC dX2_mixedPolynomial_125 (by decide) ?_
        refine J_sub [0, 1, 2, 3, 4, 5, 6] rfl ?_
        exact hj _ (if_pos c29).symm
      · refine J_lconst (v := 1) hC dX2_mixedPolynomial_121 (by decide) ?_
        refine J_goto (tgt := 126) hC dX2_mixedPolynomial_122 (by decide) ?_
        refine J_sub [0, 1, 2, 3, 4, 5, 6] rfl ?_
        exact hj _ (if_neg c29).symm
set_option maxHeartbeats 4000000 in
set_option maxRecDepth 100000 in
theorem cX2_mixedPolynomial_ok (M : Mem) (a0 : Option Nat) (a1 : Int64) (a3 : Option Nat) (r0 : Mem × Int64) (h : fX2_mixedPolynomial M a0 a1 a3 = some r0) : ∀ l : Launch, l.stackTraces = false → Con false l yX2_mixedPolynomial cX2_mixedPolynomial 9 (some .long) rm_X2_mixedPolynomial [rf a0, .long a1, rf a3] M (r0.1, Sum.inr (some (Value.long r0.2))) := by
  intro l hst
  refine Con.enter hst (own := RX2) (by decide +kernel) rfl (by exact Nat.le_of_ble_eq_true rfl) (lv0 := [(0, rf a0), (1, .long a1), (3, rf a3)]) (rfl) (fun C hC hin => ?_)
  unfold fX2_mixedPolynomial at h
  refine J_lload_n (j := 1) hC dX2_mixedPolynomial_0 rfl ?_
  refine J_aload_n (j := 2) hC dX2_mixedPolynomial_1 rfl ?_
  refine bnd_c h (fun w1 hw h => ?_)
  refine J_callS (As := [rf a3]) (M' := M) (rv := some (Value.int w1)) (st := [.long a1]) hC (fun l hl => cX2_degreeOf_ok M a3 _ hw l hl) sm_X2_degreeOf k_X2_80 rfl ⟨Nat.le_of_ble_eq_true rfl, Nat.le_of_ble_eq_true rfl⟩ (Nat.le_of_ble_eq_true rfl) ⟨Nat.le_of_ble_eq_true rfl, Nat.le_of_ble_eq_true rfl⟩ dX2_mixedPolynomial_2 rfl ?_
  refine J_i2l hC dX2_mixedPolynomial_5 ?_
  refine bnd_c h (fun w2 hw h => ?_)
  refine J_callS (As := [.long a1, .long w1.toInt64]) (M' := M) (rv := some (Value.long w2)) (st := []) hC (fun l hl => cX2_mixed_ok M a1 w1.toInt64 _ hw l hl) sm_X2_mixed k_X2_200 rfl ⟨Nat.le_of_ble_eq_true rfl, Nat.le_of_ble_eq_true rfl⟩ (Nat.zero_le _) ⟨Nat.le_of_ble_eq_true rfl, Nat.le_of_ble_eq_true rfl⟩ dX2_mixedPolynomial_6 rfl ?_
  refine J_lstore (lv' := [(4, .long w2), (0, rf a0), (1, .long a1), (3, rf a3)]) hC dX2_mixedPolynomial_9 (by decide) rfl ?_
  refine J_lload (j := 0) hC dX2_mixedPolynomial_11 rfl ?_
  refine J_aload_n (j := 3) hC dX2_mixedPolynomial_13 rfl ?_
  refine bnd_c h (fun w3 hw h => ?_)
  refine J_callS (As := [rf a3]) (M' := M) (rv := some (Value.int w3)) (st := [.long w2]) hC (fun l hl => cX2_notZero_ok M a3 _ hw l hl) sm_X2_notZero k_X2_155 rfl ⟨Nat.le_of_ble_eq_true rfl, Nat.le_of_ble_eq_true rfl⟩ (Nat.le_of_ble_eq_true rfl) ⟨Nat.le_of_ble_eq_true rfl, Nat.le_of_ble_eq_true rfl⟩ dX2_mixedPolynomial_14 rfl ?_
  refine J_i2l hC dX2_mixedPolynomial_17 ?_
  refine bnd_c h (fun w4 hw h => ?_)
  refine J_callS (As := [.long w2, .long w3.toInt64]) (M' := M) (rv := some (Value.long w4)) (st := []) hC (fun l hl => cX2_mixed_ok M w2 w3.toInt64 _ hw l hl) sm_X2_mixed k_X2_200 rfl ⟨Nat.le_of_ble_eq_true rfl, Nat.le_of_ble_eq_true rfl⟩ (Nat.zero_le _) ⟨Nat.le_of_ble_eq_true rfl, Nat.le_of_ble_eq_true rfl⟩ dX2_mixedPolynomial_18 rfl ?_
  refine J_lstore (lv' := [(4, .long w4), (0, rf a0), (1, .long a1), (3, rf a3)]) hC dX2_mixedPolynomial_21 (by decide) rfl ?_
  refine J_lload (j := 0) hC dX2_mixedPolynomial_23 rfl ?_
  refine J_aload_n (j := 3) hC dX2_mixedPolynomial_25 rfl ?_
  refine J_iconst (v := 1) hC dX2_mixedPolynomial_26 (by decide) ?_
  refine bnd_c h (fun w5 hw h => ?_)
  refine J_callS (As := [rf a3, .int 1]) (M' := M) (rv := some (Value.int w5)) (st := [.long w4]) hC (fun l hl => cX2_changesOf_ok M a3 1 _ hw l hl) sm_X2_changesOf k_X2_158 rfl ⟨Nat.le_of_ble_eq_true rfl, Nat.le_of_ble_eq_true rfl⟩ (Nat.le_of_ble_eq_true rfl) ⟨Nat.le_of_ble_eq_true rfl, Nat.le_of_ble_eq_true rfl⟩ dX2_mixedPolynomial_27 rfl ?_
  refine J_i2l hC dX2_mixedPolynomial_30 ?_
  refine bnd_c h (fun w6 hw h => ?_)
  refine J_callS (As := [.long w4, .long w5.toInt64]) (M' := M) (rv := some (Value.long w6)) (st := []) hC (fun l hl => cX2_mixed_ok M w4 w5.toInt64 _ hw l hl) sm_X2_mixed k_X2_200 rfl ⟨Nat.le_of_ble_eq_true rfl, Nat.le_of_ble_eq_true rfl⟩ (Nat.zero_le _) ⟨Nat.le_of_ble_eq_true rfl, Nat.le_of_ble_eq_true rfl⟩ dX2_mixedPolynomial_31 rfl ?_
  refine J_lstore (lv' := [(4, .long w6), (0, rf a0), (1, .long a1), (3, rf a3)]) hC dX2_mixedPolynomial_34 (by decide) rfl ?_
  refine J_lload (j := 0) hC dX2_mixedPolynomial_36 rfl ?_
  refine J_aload_n (j := 3) hC dX2_mixedPolynomial_38 rfl ?_
  refine bnd_c h (fun w7 hw h => ?_)
  refine J_callS (As := [rf a3]) (M' := M) (rv := some (Value.int w7)) (st := [.long w6]) hC (fun l hl => cX2_formOf_ok M a3 _ hw l hl) sm_X2_formOf k_X2_162 rfl ⟨Nat.le_of_ble_eq_true rfl, Nat.le_of_ble_eq_true rfl⟩ (Nat.le_of_ble_eq_true rfl) ⟨Nat.le_of_ble_eq_true rfl, Nat.le_of_ble_eq_true rfl⟩ dX2_mixedPolynomial_39 rfl ?_
  refine J_i2l hC dX2_mixedPolynomial_42 ?_
  refine bnd_c h (fun w8 hw h => ?_)
  refine J_callS (As := [.long w6, .long w7.toInt64]) (M' := M) (rv := some (Value.long w8)) (st := []) hC (fun l hl => cX2_mixed_ok M w6 w7.toInt64 _ hw l hl) sm_X2_mixed k_X2_200 rfl ⟨Nat.le_of_ble_eq_true rfl, Nat.le_of_ble_eq_true rfl⟩ (Nat.zero_le _) ⟨Nat.le_of_ble_eq_true rfl, Nat.le_of_ble_eq_true rfl⟩ dX2_mixedPolynomial_43 rfl ?_
  refine J_lstore (lv' := [(4, .long w8), (0, rf a0), (1, .long a1), (3, rf a3)]) hC dX2_mixedPolynomial_46 (by decide) rfl ?_
  refine J_iconst (v := 0) hC dX2_mixedPolynomial_48 (by decide) ?_
  refine J_istore (lv' := [(6, .int 0), (4, .long w8), (0, rf a0), (1, .long a1), (3, rf a3)]) hC dX2_mixedPolynomial_49 (by decide) rfl ?_
  refine J_sub [2, 3, 4, 1, 0] rfl ?_
  refine tX2_mixedPolynomial_51 a0 a1 a3 hC _ (fun M12 x13 x14 h => ?_) FU M w8 0 h
  · refine J_iconst (v := (-1)) hC dX2_mixedPolynomial_76 (by decide) ?_
    refine J_istore (lv' := [(6, .int (-1)), (0, rf a0), (1, .long a1), (3, rf a3), (4, .long x13)]) hC dX2_mixedPolynomial_77 (by decide) rfl ?_
    refine J_sub [1, 2, 3, 4, 0] rfl ?_
    refine tX2_mixedPolynomial_79 a0 a1 a3 hC _ (fun M30 x31 x32 h => ?_) FU M12 x13 (-1) h
    · refine J_lload (j := 3) hC dX2_mixedPolynomial_186 rfl ?_
      refine J_aload_n (j := 2) hC dX2_mixedPolynomial_188 rfl ?_
      refine bnd_c h (fun w33 hw h => ?_)
      refine J_callS (As := [rf a3]) (M' := M30) (rv := some (Value.double w33)) (st := [.long x31]) hC (fun l hl => cX2_shareOf_ok M30 a3 _ hw l hl) sm_X2_shareOf k_X2_191 rfl ⟨Nat.le_of_ble_eq_true rfl, Nat.le_of_ble_eq_true rfl⟩ (Nat.le_of_ble_eq_true rfl) ⟨Nat.le_of_ble_eq_true rfl, Nat.le_of_ble_eq_true rfl⟩ dX2_mixedPolynomial_189 rfl ?_
      refine bnd_c h (fun w34 hw h => ?_)
      refine J_callS (As := [.double w33]) (M' := M30) (rv := some (Value.long w34)) (st := [.long x31]) hC (fun l hl => cX2_bitsOf_ok M30 w33 _ hw l hl) sm_X2_bitsOf k_X2_290 rfl ⟨Nat.le_of_ble_eq_true rfl, Nat.le_of_ble_eq_true rfl⟩ (Nat.le_of_ble_eq_true rfl) ⟨Nat.le_of_ble_eq_true rfl, Nat.le_of_ble_eq_true rfl⟩ dX2_mixedPolynomial_192 rfl ?_
      refine bnd_c h (fun w35 hw h => ?_)
      refine J_callS (As := [.long x31, .long w34]) (M' := M30) (rv := some (Value.long w35)) (st := []) hC (fun l hl => cX2_mixed_ok M30 x31 w34 _ hw l hl) sm_X2_mixed k_X2_200 rfl ⟨Nat.le_of_ble_eq_true rfl, Nat.le_of_ble_eq_true rfl⟩ (Nat.zero_le _) ⟨Nat.le_of_ble_eq_true rfl, Nat.le_of_ble_eq_true rfl⟩ dX2_mixedPolynomial_195 rfl ?_
      exact J_lret hC dX2_mixedPolynomial_198 (by have h9 := Option.some.inj h; subst h9; rfl) (Nat.le_of_ble_eq_true rfl) (Nat.le_of_ble_eq_true rfl)
abbrev rm_X2_mixedPairs : Room := { frames := 4, cells := 0, slots := 0, locals := 91 }

set_option maxHeartbeats 4000000 in
set_option maxRecDepth 100000 in
theorem tX2_mixedPairs_14 {C : JC} {r0 : Int64} (M : Mem) (x0 : Option Nat) (x1 : Int64) (x5 : Int32) (hC : Ok C false cX2_mixedPairs 7 rm_X2_mixedPairs (some .long) RX2 (M, Sum.inr (some (Value.long r0))))  (k86 : Int64 → Int32 → Option (Int64)) (hk86 : ∀ (x3 : Int64) (x6 : Int32), k86 x3 x6 = some r0 → J C 0 0 M 86 [(0, rf x0), (1, .long x1), (3, .long x3), (5, .int x5), (6, .int x6)] []) : ∀ (n : Nat) (x3 : Int64) (x6 : Int32), fX2_mixedPairs_14 M x0 x1 x5 k86 n x3 x6 = some r0 → J C 0 0 M 14 [(0, rf x0), (1, .long x1), (3, .long x3), (5, .int x5), (6, .int x6)] [] := by
  intro n
  induction n with
  | zero => intro x3 x6 h; have h : none = some r0 := h; cases h
  | succ n ih =>
    intro x3 x6 h
    rw [fX2_mixedPairs_14] at h
    refine J_iload (j := 4) hC dX2_mixedPairs_14 rfl ?_
    refine J_iconst (v := 5) hC dX2_mixedPairs_16 (by decide) ?_
    refine J_icmp_ge (tgt := 86) hC dX2_mixedPairs_17 (by decide) (fun c2 => ?_) (fun c2 => ?_)
    · have h := ite_t c2 h
      refine J_sub [0, 1, 2, 3, 4] rfl ?_
      exact hk86 x3 x6 h
    · have h := ite_f c2 h
      refine J_lload_n (j := 2) hC dX2_mixedPairs_20 rfl ?_
      refine J_aload_n (j := 0) hC dX2_mixedPairs_21 rfl ?_
      refine J_g2_0 hC k_X2_12 dX2_mixedPairs_22 h (fun v3 _ h => ?_)
      refine J_g1_0 hC k_X2_69 dX2_mixedPairs_25 h (fun v4 _ h => ?_)
      refine J_iload (j := 3) hC dX2_mixedPairs_28 rfl ?_
      refine J_aald9 hC dX2_mixedPairs_30 h (fun v5 _ h => ?_)
      refine J_aload_n (j := 0) hC dX2_mixedPairs_31 rfl ?_
      refine J_g2_0 hC k_X2_12 dX2_mixedPairs_32 h (fun v6 _ h => ?_)
      refine J_g1_0 hC k_X2_69 dX2_mixedPairs_35 h (fun v7 _ h => ?_)
      refine J_iload (j := 4) hC dX2_mixedPairs_38 rfl ?_
      refine J_aald9 hC dX2_mixedPairs_40 h (fun v8 _ h => ?_)
      refine J_iconst (v := 0) hC dX2_mixedPairs_41 (by decide) ?_
      refine bnd_c h (fun w9 hw h => ?_)
      refine J_callS (As := [rf v5, rf v8, .int 0]) (M' := M) (rv := some (Value.int w9)) (st := [.long x3]) hC (fun l hl => cX2_rowsOf_ok M v5 v8 0 _ hw l hl) sm_X2_rowsOf k_X2_177 rfl ⟨Nat.le_of_ble_eq_true rfl, Nat.le_of_ble_eq_true rfl⟩ (Nat.le_of_ble_eq_true rfl) ⟨Nat.le_of_ble_eq_true rfl, Nat.le_of_ble_eq_true rfl⟩ dX2_mixedPairs_42 rfl ?_
      refine J_i2l hC dX2_mixedPairs_45 ?_
      refine bnd_c h (fun w10 hw h => ?_)
      refine J_callS (As := [.long x3, .long w9.toInt64]) (M' := M) (rv := some (Value.long w10)) (st := []) hC (fun l hl => cX2_mixed_ok M x3 w9.toInt64 _ hw l hl) sm_X2_mixed k_X2_200 rfl ⟨Nat.le_of_ble_eq_true rfl, Nat.le_of_ble_eq_true rfl⟩ (Nat.zero_le _) ⟨Nat.le_of_ble_eq_true rfl, Nat.le_of_ble_eq_true rfl⟩ dX2_mixedPairs_46 rfl ?_
      refine J_lstore_n (i := 3) (lv' := [(3, .long w10), (0, rf x0), (1, .long x1), (5, .int x5), (6, .int x6)]) rfl hC dX2_mixedPairs_49 (by decide) rfl ?_
      refine J_lload_n (j := 0) hC dX2_mixedPairs_50 rfl ?_
      refine J_aload_n (j := 1) hC dX2_mixedPairs_51 rfl ?_
      refine J_g2_0 hC k_X2_12 dX2_mixedPairs_52 h (fun v11 _ h => ?_)
      refine J_g1_0 hC k_X2_69 dX2_mixedPairs_55 h (fun v12 _ h => ?_)
      refine J_iload (j := 3) hC dX2_mixedPairs_58 rfl ?_
      refine J_aald9 hC dX2_mixedPairs_60 h (fun v13 _ h => ?_)
      refine J_aload_n (j := 1) hC dX2_mixedPairs_61 rfl ?_
      refine J_g2_0 hC k_X2_12 dX2_mixedPairs_62 h (fun v14 _ h => ?_)
      refine J_g1_0 hC k_X2_69 dX2_mixedPairs_65 h (fun v15 _ h => ?_)
      refine J_iload (j := 4) hC dX2_mixedPairs_68 rfl ?_
      refine J_aald9 hC dX2_mixedPairs_70 h (fun v16 _ h => ?_)
      refine J_iconst (v := 1) hC dX2_mixedPairs_71 (by decide) ?_
      refine bnd_c h (fun w17 hw h => ?_)
      refine J_callS (As := [rf v13, rf v16, .int 1]) (M' := M) (rv := some (Value.int w17)) (st := [.long w10]) hC (fun l hl => cX2_rowsOf_ok M v13 v16 1 _ hw l hl) sm_X2_rowsOf k_X2_177 rfl ⟨Nat.le_of_ble_eq_true rfl, Nat.le_of_ble_eq_true rfl⟩ (Nat.le_of_ble_eq_true rfl) ⟨Nat.le_of_ble_eq_true rfl, Nat.le_of_ble_eq_true rfl⟩ dX2_mixedPairs_72 rfl ?_
      refine J_i2l hC dX2_mixedPairs_75 ?_
      refine bnd_c h (fun w18 hw h => ?_)
      refine J_callS (As := [.long w10, .long w17.toInt64]) (M' := M) (rv := some (Value.long w18)) (st := []) hC (fun l hl => cX2_mixed_ok M w10 w17.toInt64 _ hw l hl) sm_X2_mixed k_X2_200 rfl ⟨Nat.le_of_ble_eq_true rfl, Nat.le_of_ble_eq_true rfl⟩ (Nat.zero_le _) ⟨Nat.le_of_ble_eq_true rfl, Nat.le_of_ble_eq_true rfl⟩ dX2_mixedPairs_76 rfl ?_
      refine J_lstore_n (i := 3) (lv' := [(3, .long w18), (0, rf x0), (1, .long x1), (5, .int x5), (6, .int x6)]) rfl hC dX2_mixedPairs_79 (by decide) rfl ?_
      refine J_inc (j := 4) (k := 1) (lv' := [(6, .int (x6 + 1)), (3, .long w18), (0, rf x0), (1, .long x1), (5, .int x5)]) hC dX2_mixedPairs_80 (by decide) rfl (by decide) rfl ?_
      refine J_goto (tgt := 14) hC dX2_mixedPairs_83 (by decide) ?_
      refine J_sub [2, 3, 1, 4, 0] rfl ?_
      exact ih w18 (x6 + 1) h
set_option maxHeartbeats 4000000 in
set_option maxRecDepth 100000 in
theorem tX2_mixedPairs_5 {C : JC} {r0 : Int64} (M : Mem) (x0 : Option Nat) (x1 : Int64) (hC : Ok C false cX2_mixedPairs 7 rm_X2_mixedPairs (some .long) RX2 (M, Sum.inr (some (Value.long r0))))  (k92 : Int64 → Int32 → Option (Int64)) (hk92 : ∀ (x3 : Int64) (x5 : Int32), k92 x3 x5 = some r0 → J C 0 0 M 92 [(0, rf x0), (1, .long x1), (3, .long x3), (5, .int x5)] []) : ∀ (n : Nat) (x3 : Int64) (x5 : Int32), fX2_mixedPairs_5 M x0 x1 k92 n x3 x5 = some r0 → J C 0 0 M 5 [(0, rf x0), (1, .long x1), (3, .long x3), (5, .int x5)] [] := by
  intro n
  induction n with
  | zero => intro x3 x5 h; have h : none = some r0 := h; cases h
  | succ n ih =>
    intro x3 x5 h
    rw [fX2_mixedPairs_5] at h
    refine J_iload (j := 3) hC dX2_mixedPairs_5 rfl ?_
    refine J_iconst (v := 5) hC dX2_mixedPairs_7 (by decide) ?_
    refine J_icmp_ge (tgt := 92) hC dX2_mixedPairs_8 (by decide) (fun c1 => ?_) (fun c1 => ?_)
    · have h := ite_t c1 h
      refine J_sub [0, 1, 2, 3] rfl ?_
      exact hk92 x3 x5 h
    · have h := ite_f c1 h
      refine J_iconst (v := 0) hC dX2_mixedPairs_11 (by decide) ?_
      refine J_istore (lv' := [(6, .int 0), (0, rf x0), (1, .long x1), (3, .long x3), (5, .int x5)]) hC dX2_mixedPairs_12 (by decide) rfl ?_
      refine J_sub [1, 2, 3, 4, 0] rfl ?_
      refine tX2_mixedPairs_14 M x0 x1 x5 hC _ (fun x19 x20 h => ?_) FU x3 0 h
      · refine J_inc (j := 3) (k := 1) (lv' := [(5, .int (x5 + 1)), (0, rf x0), (1, .long x1), (3, .long x19), (6, .int x20)]) hC dX2_mixedPairs_86 (by decide) rfl (by decide) rfl ?_
        refine J_goto (tgt := 5) hC dX2_mixedPairs_89 (by decide) ?_
        refine J_sub [1, 2, 3, 0] rfl ?_
        exact ih x19 (x5 + 1) h
set_option maxHeartbeats 4000000 in
set_option maxRecDepth 100000 in
theorem cX2_mixedPairs_ok (M : Mem) (a0 : Option Nat) (a1 : Int64) (r0 : Int64) (h : fX2_mixedPairs M a0 a1 = some r0) : ∀ l : Launch, l.stackTraces = false → Con false l yX2_mixedPairs cX2_mixedPairs 7 (some .long) rm_X2_mixedPairs [rf a0, .long a1] M (M, Sum.inr (some (Value.long r0))) := by
  intro l hst
  refine Con.enter hst (own := RX2) (by decide +kernel) rfl (by exact Nat.le_of_ble_eq_true rfl) (lv0 := [(0, rf a0), (1, .long a1)]) (rfl) (fun C hC hin => ?_)
  unfold fX2_mixedPairs at h
  refine J_lload_n (j := 1) hC dX2_mixedPairs_0 rfl ?_
  refine J_lstore_n (i := 3) (lv' := [(3, .long a1), (0, rf a0), (1, .long a1)]) rfl hC dX2_mixedPairs_1 (by decide) rfl ?_
  refine J_iconst (v := 0) hC dX2_mixedPairs_2 (by decide) ?_
  refine J_istore (lv' := [(5, .int 0), (3, .long a1), (0, rf a0), (1, .long a1)]) hC dX2_mixedPairs_3 (by decide) rfl ?_
  refine J_sub [2, 3, 1, 0] rfl ?_
  refine tX2_mixedPairs_5 M a0 a1 hC _ (fun x21 x22 h => ?_) FU a1 0 h
  · refine J_lload_n (j := 2) hC dX2_mixedPairs_92 rfl ?_
    exact J_lret hC dX2_mixedPairs_93 (by have h9 := Option.some.inj h; subst h9; rfl) (Nat.le_of_ble_eq_true rfl) (Nat.le_of_ble_eq_true rfl)
abbrev rm_X2_mixedWhole : Room := { frames := 1, cells := 0, slots := 0, locals := 23 }

set_option maxHeartbeats 4000000 in
set_option maxRecDepth 100000 in
theorem tX2_mixedWhole_9 {C : JC} {r0 : Mem × Int64} (x0 : Option Nat) (x1 : Int64) (hC : Ok C false cX2_mixedWhole 6 rm_X2_mixedWhole (some .long) RX2 (r0.1, Sum.inr (some (Value.long r0.2))))  (k34 : Mem → Int64 → Int32 → Option (Mem × Int64)) (hk34 : ∀ (M : Mem) (x3 : Int64) (x5 : Int32), k34 M x3 x5 = some r0 → J C 0 0 M 34 [(0, rf x0), (1, .long x1), (3, .long x3), (5, .int x5)] []) : ∀ (n : Nat) (M : Mem) (x3 : Int64) (x5 : Int32), fX2_mixedWhole_9 x0 x1 k34 n M x3 x5 = some r0 → J C 0 0 M 9 [(0, rf x0), (1, .long x1), (3, .long x3), (5, .int x5)] [] := by
  intro n
  induction n with
  | zero => intro M x3 x5 h; have h : none = some r0 := h; cases h
  | succ n ih =>
    intro M x3 x5 h
    rw [fX2_mixedWhole_9] at h
    refine J_iload (j := 3) hC dX2_mixedWhole_9 rfl ?_
    refine J_bipush (v := 9) hC dX2_mixedWhole_11 (by decide) ?_
    refine J_icmp_ge (tgt := 34) hC dX2_mixedWhole_13 (by decide) (fun c2 => ?_) (fun c2 => ?_)
    · have h := ite_t c2 h
      refine J_sub [0, 1, 2, 3] rfl ?_
      exact hk34 M x3 x5 h
    · have h := ite_f c2 h
      refine J_lload_n (j := 2) hC dX2_mixedWhole_16 rfl ?_
      refine J_aload_n (j := 0) hC dX2_mixedWhole_17 rfl ?_
      refine J_g2_7 hC k_X2_38 dX2_mixedWhole_18 h (fun v3 _ h => ?_)
      refine J_iload (j := 3) hC dX2_mixedWhole_21 rfl ?_
      refine J_lald hC dX2_mixedWhole_23 h (fun v4 _ h => ?_)
      refine bnd_c h (fun w5 hw h => ?_)
      refine J_callS (As := [.long x3, .long v4]) (M' := M) (rv := some (Value.long w5)) (st := []) hC (fun l hl => cX2_mixed_ok M x3 v4 _ hw l hl) sm_X2_mixed k_X2_200 rfl ⟨Nat.le_of_ble_eq_true rfl, Nat.le_of_ble_eq_true rfl⟩ (Nat.zero_le _) ⟨Nat.le_of_ble_eq_true rfl, Nat.le_of_ble_eq_true rfl⟩ dX2_mixedWhole_24 rfl ?_
      refine J_lstore_n (i := 3) (lv' := [(3, .long w5), (0, rf x0), (1, .long x1), (5, .int x5)]) rfl hC dX2_mixedWhole_27 (by decide) rfl ?_
      refine J_inc (j := 3) (k := 1) (lv' := [(5, .int (x5 + 1)), (3, .long w5), (0, rf x0), (1, .long x1)]) hC dX2_mixedWhole_28 (by decide) rfl (by decide) rfl ?_
      refine J_goto (tgt := 9) hC dX2_mixedWhole_31 (by decide) ?_
      refine J_sub [2, 3, 1, 0] rfl ?_
      exact ih M w5 (x5 + 1) h
set_option maxHeartbeats 4000000 in
set_option maxRecDepth 100000 in
theorem tX2_mixedWhole_37 {C : JC} {r0 : Mem × Int64} (x0 : Option Nat) (x1 : Int64) (hC : Ok C false cX2_mixedWhole 6 rm_X2_mixedWhole (some .long) RX2 (r0.1, Sum.inr (some (Value.long r0.2))))  (k78 : Mem → Int64 → Int32 → Option (Mem × Int64)) (hk78 : ∀ (M : Mem) (x3 : Int64) (x5 : Int32), k78 M x3 x5 = some r0 → J C 0 0 M 78 [(0, rf x0), (1, .long x1), (3, .long x3), (5, .int x5)] []) : ∀ (n : Nat) (M : Mem) (x3 : Int64) (x5 : Int32), fX2_mixedWhole_37 x0 x1 k78 n M x3 x5 = some r0 → J C 0 0 M 37 [(0, rf x0), (1, .long x1), (3, .long x3), (5, .int x5)] [] := by
  intro n
  induction n with
  | zero => intro M x3 x5 h; have h : none = some r0 := h; cases h
  | succ n ih =>
    intro M x3 x5 h
    rw [fX2_mixedWhole_37] at h
    refine J_iload (j := 3) hC dX2_mixedWhole_37 rfl ?_
    refine J_aload_n (j := 0) hC dX2_mixedWhole_39 rfl ?_
    refine J_g2_0 hC k_X2_12 dX2_mixedWhole_40 h (fun v9 _ h => ?_)
    refine J_g1_2 hC k_X2_107 dX2_mixedWhole_43 h (fun v10 _ h => ?_)
    refine J_icmp_ge (tgt := 78) hC dX2_mixedWhole_46 (by decide) (fun c11 => ?_) (fun c11 => ?_)
    · have h := ite_t c11 h
      refine J_sub [0, 1, 2, 3] rfl ?_
      exact hk78 M x3 x5 h
    · have h := ite_f c11 h
      refine J_iload (j := 3) hC dX2_mixedWhole_49 rfl ?_
      refine J_bipush (v := 8) hC dX2_mixedWhole_51 (by decide) ?_
      refine J_icmp_ge (tgt := 78) hC dX2_mixedWhole_53 (by decide) (fun c12 => ?_) (fun c12 => ?_)
      · have h := ite_t c12 h
        refine J_sub [0, 1, 2, 3] rfl ?_
        exact hk78 M x3 x5 h
      · have h := ite_f c12 h
        refine J_lload_n (j := 2) hC dX2_mixedWhole_56 rfl ?_
        refine J_aload_n (j := 0) hC dX2_mixedWhole_57 rfl ?_
        refine J_g2_0 hC k_X2_12 dX2_mixedWhole_58 h (fun v13 _ h => ?_)
        refine J_g1_1 hC k_X2_110 dX2_mixedWhole_61 h (fun v14 _ h => ?_)
        refine J_iload (j := 3) hC dX2_mixedWhole_64 rfl ?_
        refine J_iald hC dX2_mixedWhole_66 h (fun v15 _ h => ?_)
        refine J_i2l hC dX2_mixedWhole_67 ?_
        refine bnd_c h (fun w16 hw h => ?_)
        refine J_callS (As := [.long x3, .long v15.toInt64]) (M' := M) (rv := some (Value.long w16)) (st := []) hC (fun l hl => cX2_mixed_ok M x3 v15.toInt64 _ hw l hl) sm_X2_mixed k_X2_200 rfl ⟨Nat.le_of_ble_eq_true rfl, Nat.le_of_ble_eq_true rfl⟩ (Nat.zero_le _) ⟨Nat.le_of_ble_eq_true rfl, Nat.le_of_ble_eq_true rfl⟩ dX2_mixedWhole_68 rfl ?_
        refine J_lstore_n (i := 3) (lv' := [(3, .long w16), (0, rf x0), (1, .long x1), (5, .int x5)]) rfl hC dX2_mixedWhole_71 (by decide) rfl ?_
        refine J_inc (j := 3) (k := 1) (lv' := [(5, .int (x5 + 1)), (3, .long w16), (0, rf x0), (1, .long x1)]) hC dX2_mixedWhole_72 (by decide) rfl (by decide) rfl ?_
        refine J_goto (tgt := 37) hC dX2_mixedWhole_75 (by decide) ?_
        refine J_sub [2, 3, 1, 0] rfl ?_
        exact ih M w16 (x5 + 1) h
set_option maxHeartbeats 4000000 in
set_option maxRecDepth 100000 in
theorem cX2_mixedWhole_ok (M : Mem) (a0 : Option Nat) (a1 : Int64) (r0 : Mem × Int64) (h : fX2_mixedWhole M a0 a1 = some r0) : ∀ l : Launch, l.stackTraces = false → Con false l yX2_mixedWhole cX2_mixedWhole 6 (some .long) rm_X2_mixedWhole [rf a0, .long a1] M (r0.1, Sum.inr (some (Value.long r0.2))) := by
  intro l hst
  refine Con.enter hst (own := RX2) (by decide +kernel) rfl (by exact Nat.le_of_ble_eq_true rfl) (lv0 := [(0, rf a0), (1, .long a1)]) (rfl) (fun C hC hin => ?_)
  unfold fX2_mixedWhole at h
  refine J_lload_n (j := 1) hC dX2_mixedWhole_0 rfl ?_
  refine J_lstore_n (i := 3) (lv' := [(3, .long a1), (0, rf a0), (1, .long a1)]) rfl hC dX2_mixedWhole_1 (by decide) rfl ?_
  refine J_aload_n (j := 1) hC dX2_mixedWhole_2 rfl ?_
  refine ck_c h (fun ho h => ?_)
  refine bnd_c h (fun w1 hw h => ?_)
  refine J_callV (As := []) (M' := w1) (rv := none) (st := []) hC (fun l hl => cX2_expandWhole_ok M a0 _ hw l hl) vm_X2_expandWhole k_X2_113 ho ⟨rfl, rfl⟩ rfl ⟨Nat.le_of_ble_eq_true rfl, Nat.le_of_ble_eq_true rfl⟩ (Nat.zero_le _) ⟨Nat.le_of_ble_eq_true rfl, Nat.le_of_ble_eq_true rfl⟩ dX2_mixedWhole_3 rfl ?_
  refine J_iconst (v := 0) hC dX2_mixedWhole_6 (by decide) ?_
  refine J_istore (lv' := [(5, .int 0), (3, .long a1), (0, rf a0), (1, .long a1)]) hC dX2_mixedWhole_7 (by decide) rfl ?_
  refine J_sub [2, 3, 1, 0] rfl ?_
  refine tX2_mixedWhole_9 a0 a1 hC _ (fun M6 x7 x8 h => ?_) FU w1 a1 0 h
  · refine J_iconst (v := 0) hC dX2_mixedWhole_34 (by decide) ?_
    refine J_istore (lv' := [(5, .int 0), (0, rf a0), (1, .long a1), (3, .long x7)]) hC dX2_mixedWhole_35 (by decide) rfl ?_
    refine J_sub [1, 2, 3, 0] rfl ?_
    refine tX2_mixedWhole_37 a0 a1 hC _ (fun M17 x18 x19 h => ?_) FU M6 x7 0 h
    · refine J_lload_n (j := 2) hC dX2_mixedWhole_78 rfl ?_
      exact J_lret hC dX2_mixedWhole_79 (by have h9 := Option.some.inj h; subst h9; rfl) (Nat.le_of_ble_eq_true rfl) (Nat.le_of_ble_eq_true rfl)
abbrev rm_X2_mixedTexts : Room := { frames := 1, cells := 0, slots := 0, locals := 23 }

set_option maxHeartbeats 4000000 in
set_option maxRecDepth 100000 in
theorem tX2_mixedTexts_5 {C : JC} {r0 : Int64} (M : Mem) (x0 : Option Nat) (x1 : Int64) (hC : Ok C false cX2_mixedTexts 6 rm_X2_mixedTexts (some .long) RX2 (M, Sum.inr (some (Value.long r0))))  (k37 : Int64 → Int32 → Option (Int64)) (hk37 : ∀ (x3 : Int64) (x5 : Int32), k37 x3 x5 = some r0 → J C 0 0 M 37 [(0, rf x0), (1, .long x1), (3, .long x3), (5, .int x5)] []) : ∀ (n : Nat) (x3 : Int64) (x5 : Int32), fX2_mixedTexts_5 M x0 x1 k37 n x3 x5 = some r0 → J C 0 0 M 5 [(0, rf x0), (1, .long x1), (3, .long x3), (5, .int x5)] [] := by
  intro n
  induction n with
  | zero => intro x3 x5 h; have h : none = some r0 := h; cases h
  | succ n ih =>
    intro x3 x5 h
    rw [fX2_mixedTexts_5] at h
    refine J_iload (j := 3) hC dX2_mixedTexts_5 rfl ?_
    refine J_iconst (v := 2) hC dX2_mixedTexts_7 (by decide) ?_
    refine J_icmp_ge (tgt := 37) hC dX2_mixedTexts_8 (by decide) (fun c1 => ?_) (fun c1 => ?_)
    · have h := ite_t c1 h
      refine J_sub [0, 1, 2, 3] rfl ?_
      exact hk37 x3 x5 h
    · have h := ite_f c1 h
      refine J_lload_n (j := 2) hC dX2_mixedTexts_11 rfl ?_
      refine J_aload_n (j := 0) hC dX2_mixedTexts_12 rfl ?_
      refine J_g2_4 hC k_X2_27 dX2_mixedTexts_13 h (fun v2 _ h => ?_)
      refine J_iload (j := 3) hC dX2_mixedTexts_16 rfl ?_
      refine J_zald hC dX2_mixedTexts_18 h (fun v3 _ h => ?_)
      have hj : ∀ (z5 : Int64), z5 = (if v3 = 0 then 0 else 1) → J C 0 0 M 27 [(0, rf x0), (1, .long x1), (3, .long x3), (5, .int x5)] [.long z5, .long x3] := by
        intro z5 ez5
        subst ez5
        refine bnd_c h (fun w4 hw h => ?_)
        refine J_callS (As := [.long x3, .long (if v3 = 0 then 0 else 1)]) (M' := M) (rv := some (Value.long w4)) (st := []) hC (fun l hl => cX2_mixed_ok M x3 (if v3 = 0 then 0 else 1) _ hw l hl) sm_X2_mixed k_X2_200 rfl ⟨Nat.le_of_ble_eq_true rfl, Nat.le_of_ble_eq_true rfl⟩ (Nat.zero_le _) ⟨Nat.le_of_ble_eq_true rfl, Nat.le_of_ble_eq_true rfl⟩ dX2_mixedTexts_27 rfl ?_
        refine J_lstore_n (i := 3) (lv' := [(3, .long w4), (0, rf x0), (1, .long x1), (5, .int x5)]) rfl hC dX2_mixedTexts_30 (by decide) rfl ?_
        refine J_inc (j := 3) (k := 1) (lv' := [(5, .int (x5 + 1)), (3, .long w4), (0, rf x0), (1, .long x1)]) hC dX2_mixedTexts_31 (by decide) rfl (by decide) rfl ?_
        refine J_goto (tgt := 5) hC dX2_mixedTexts_34 (by decide) ?_
        refine J_sub [2, 3, 1, 0] rfl ?_
        exact ih w4 (x5 + 1) h
      refine J_if_eq (tgt := 26) hC dX2_mixedTexts_19 (by decide) (fun c6 => ?_) (fun c6 => ?_)
      · refine J_lconst (v := 0) hC dX2_mixedTexts_26 (by decide) ?_
        refine J_sub [0, 1, 2, 3] rfl ?_
        exact hj _ (if_pos c6).symm
      · refine J_lconst (v := 1) hC dX2_mixedTexts_22 (by decide) ?_
        refine J_goto (tgt := 27) hC dX2_mixedTexts_23 (by decide) ?_
        refine J_sub [0, 1, 2, 3] rfl ?_
        exact hj _ (if_neg c6).symm
set_option maxHeartbeats 4000000 in
set_option maxRecDepth 100000 in
theorem tX2_mixedTexts_50 {C : JC} {r0 : Int64} (M : Mem) (x0 : Option Nat) (x1 : Int64) (hC : Ok C false cX2_mixedTexts 6 rm_X2_mixedTexts (some .long) RX2 (M, Sum.inr (some (Value.long r0))))  (k85 : Int64 → Int32 → Option (Int64)) (hk85 : ∀ (x3 : Int64) (x5 : Int32), k85 x3 x5 = some r0 → J C 0 0 M 85 [(0, rf x0), (1, .long x1), (3, .long x3), (5, .int x5)] []) : ∀ (n : Nat) (x3 : Int64) (x5 : Int32), fX2_mixedTexts_50 M x0 x1 k85 n x3 x5 = some r0 → J C 0 0 M 50 [(0, rf x0), (1, .long x1), (3, .long x3), (5, .int x5)] [] := by
  intro n
  induction n with
  | zero => intro x3 x5 h; have h : none = some r0 := h; cases h
  | succ n ih =>
    intro x3 x5 h
    rw [fX2_mixedTexts_50] at h
    refine J_iload (j := 3) hC dX2_mixedTexts_50 rfl ?_
    refine J_aload_n (j := 0) hC dX2_mixedTexts_52 rfl ?_
    refine J_g2_6 hC k_X2_35 dX2_mixedTexts_53 h (fun v11 _ h => ?_)
    refine J_icmp_ge (tgt := 85) hC dX2_mixedTexts_56 (by decide) (fun c12 => ?_) (fun c12 => ?_)
    · have h := ite_t c12 h
      refine J_sub [0, 1, 2, 3] rfl ?_
      exact hk85 x3 x5 h
    · have h := ite_f c12 h
      refine J_iload (j := 3) hC dX2_mixedTexts_59 rfl ?_
      refine J_bipush (v := 60) hC dX2_mixedTexts_61 (by decide) ?_
      refine J_icmp_ge (tgt := 85) hC dX2_mixedTexts_63 (by decide) (fun c13 => ?_) (fun c13 => ?_)
      · have h := ite_t c13 h
        refine J_sub [0, 1, 2, 3] rfl ?_
        exact hk85 x3 x5 h
      · have h := ite_f c13 h
        refine J_lload_n (j := 2) hC dX2_mixedTexts_66 rfl ?_
        refine J_aload_n (j := 0) hC dX2_mixedTexts_67 rfl ?_
        refine J_g2_5 hC k_X2_31 dX2_mixedTexts_68 h (fun v14 _ h => ?_)
        refine J_iload (j := 3) hC dX2_mixedTexts_71 rfl ?_
        refine J_iald hC dX2_mixedTexts_73 h (fun v15 _ h => ?_)
        refine J_i2l hC dX2_mixedTexts_74 ?_
        refine bnd_c h (fun w16 hw h => ?_)
        refine J_callS (As := [.long x3, .long v15.toInt64]) (M' := M) (rv := some (Value.long w16)) (st := []) hC (fun l hl => cX2_mixed_ok M x3 v15.toInt64 _ hw l hl) sm_X2_mixed k_X2_200 rfl ⟨Nat.le_of_ble_eq_true rfl, Nat.le_of_ble_eq_true rfl⟩ (Nat.zero_le _) ⟨Nat.le_of_ble_eq_true rfl, Nat.le_of_ble_eq_true rfl⟩ dX2_mixedTexts_75 rfl ?_
        refine J_lstore_n (i := 3) (lv' := [(3, .long w16), (0, rf x0), (1, .long x1), (5, .int x5)]) rfl hC dX2_mixedTexts_78 (by decide) rfl ?_
        refine J_inc (j := 3) (k := 1) (lv' := [(5, .int (x5 + 1)), (3, .long w16), (0, rf x0), (1, .long x1)]) hC dX2_mixedTexts_79 (by decide) rfl (by decide) rfl ?_
        refine J_goto (tgt := 50) hC dX2_mixedTexts_82 (by decide) ?_
        refine J_sub [2, 3, 1, 0] rfl ?_
        exact ih w16 (x5 + 1) h
set_option maxHeartbeats 4000000 in
set_option maxRecDepth 100000 in
theorem cX2_mixedTexts_ok (M : Mem) (a0 : Option Nat) (a1 : Int64) (r0 : Int64) (h : fX2_mixedTexts M a0 a1 = some r0) : ∀ l : Launch, l.stackTraces = false → Con false l yX2_mixedTexts cX2_mixedTexts 6 (some .long) rm_X2_mixedTexts [rf a0, .long a1] M (M, Sum.inr (some (Value.long r0))) := by
  intro l hst
  refine Con.enter hst (own := RX2) (by decide +kernel) rfl (by exact Nat.le_of_ble_eq_true rfl) (lv0 := [(0, rf a0), (1, .long a1)]) (rfl) (fun C hC hin => ?_)
  unfold fX2_mixedTexts at h
  refine J_lload_n (j := 1) hC dX2_mixedTexts_0 rfl ?_
  refine J_lstore_n (i := 3) (lv' := [(3, .long a1), (0, rf a0), (1, .long a1)]) rfl hC dX2_mixedTexts_1 (by decide) rfl ?_
  refine J_iconst (v := 0) hC dX2_mixedTexts_2 (by decide) ?_
  refine J_istore (lv' := [(5, .int 0), (3, .long a1), (0, rf a0), (1, .long a1)]) hC dX2_mixedTexts_3 (by decide) rfl ?_
  refine J_sub [2, 3, 1, 0] rfl ?_
  refine tX2_mixedTexts_5 M a0 a1 hC _ (fun x7 x8 h => ?_) FU a1 0 h
  · refine J_lload_n (j := 2) hC dX2_mixedTexts_37 rfl ?_
    refine J_aload_n (j := 0) hC dX2_mixedTexts_38 rfl ?_
    refine J_g2_6 hC k_X2_35 dX2_mixedTexts_39 h (fun v9 _ h => ?_)
    refine J_i2l hC dX2_mixedTexts_42 ?_
    refine bnd_c h (fun w10 hw h => ?_)
    refine J_callS (As := [.long x7, .long v9.toInt64]) (M' := M) (rv := some (Value.long w10)) (st := []) hC (fun l hl => cX2_mixed_ok M x7 v9.toInt64 _ hw l hl) sm_X2_mixed k_X2_200 rfl ⟨Nat.le_of_ble_eq_true rfl, Nat.le_of_ble_eq_true rfl⟩ (Nat.zero_le _) ⟨Nat.le_of_ble_eq_true rfl, Nat.le_of_ble_eq_true rfl⟩ dX2_mixedTexts_43 rfl ?_
    refine J_lstore_n (i := 3) (lv' := [(3, .long w10), (0, rf a0), (1, .long a1), (5, .int x8)]) rfl hC dX2_mixedTexts_46 (by decide) rfl ?_
    refine J_iconst (v := 0) hC dX2_mixedTexts_47 (by decide) ?_
    refine J_istore (lv' := [(5, .int 0), (3, .long w10), (0, rf a0), (1, .long a1)]) hC dX2_mixedTexts_48 (by decide) rfl ?_
    refine J_sub [2, 3, 1, 0] rfl ?_
    refine tX2_mixedTexts_50 M a0 a1 hC _ (fun x17 x18 h => ?_) FU w10 0 h
    · refine J_lload_n (j := 2) hC dX2_mixedTexts_85 rfl ?_
      exact J_lret hC dX2_mixedTexts_86 (by have h9 := Option.some.inj h; subst h9; rfl) (Nat.le_of_ble_eq_true rfl) (Nat.le_of_ble_eq_true rfl)
abbrev rm_X2_digest : Room := { frames := 18, cells := 1, slots := 6, locals := 491 }

set_option maxHeartbeats 4000000 in
set_option maxRecDepth 100000 in
theorem tX2_digest_6 {C : JC} {r0 : Mem × Int64} (x0 : Option Nat) (hC : Ok C false cX2_digest 4 rm_X2_digest (some .long) RX2 (r0.1, Sum.inr (some (Value.long r0.2))))  (k29 : Mem → Int64 → Int32 → Option (Mem × Int64)) (hk29 : ∀ (M : Mem) (x1 : Int64) (x3 : Int32), k29 M x1 x3 = some r0 → J C 0 0 M 29 [(0, rf x0), (1, .long x1), (3, .int x3)] []) : ∀ (n : Nat) (M : Mem) (x1 : Int64) (x3 : Int32), fX2_digest_6 x0 k29 n M x1 x3 = some r0 → J C 0 0 M 6 [(0, rf x0), (1, .long x1), (3, .int x3)] [] := by
  intro n
  induction n with
  | zero => intro M x1 x3 h; have h : none = some r0 := h; cases h
  | succ n ih =>
    intro M x1 x3 h
    rw [fX2_digest_6] at h
    refine J_iload_n (j := 2) hC dX2_digest_6 rfl ?_
    refine J_bipush (v := 8) hC dX2_digest_7 (by decide) ?_
    refine J_icmp_ge (tgt := 29) hC dX2_digest_9 (by decide) (fun c1 => ?_) (fun c1 => ?_)
    · have h := ite_t c1 h
      refine J_sub [0, 1, 2] rfl ?_
      exact hk29 M x1 x3 h
    · have h := ite_f c1 h
      refine J_lload_n (j := 1) hC dX2_digest_12 rfl ?_
      refine J_aload_n (j := 0) hC dX2_digest_13 rfl ?_
      refine J_iload_n (j := 2) hC dX2_digest_14 rfl ?_
      refine ck_c h (fun ho h => ?_)
      refine bnd_c h (fun w2 hw h => ?_)
      refine thrE_c h (fun E hE h => ?_) (fun v3 hv h => ?_)
      · cases h
      · refine J_callV (As := [.int x3]) (M' := M) (rv := some (Value.int v3)) (st := [.long x1]) hC (fun l hl => cX2_count_ret M x0 x3 v3 (by rw [hw, hv]) l hl) vm_X2_count k_X2_197 ho ⟨rfl, rfl⟩ rfl ⟨Nat.le_of_ble_eq_true rfl, Nat.le_of_ble_eq_true rfl⟩ (Nat.le_of_ble_eq_true rfl) ⟨Nat.le_of_ble_eq_true rfl, Nat.le_of_ble_eq_true rfl⟩ dX2_digest_15 rfl ?_
        refine J_i2l hC dX2_digest_18 ?_
        refine bnd_c h (fun w4 hw h => ?_)
        refine J_callS (As := [.long x1, .long v3.toInt64]) (M' := M) (rv := some (Value.long w4)) (st := []) hC (fun l hl => cX2_mixed_ok M x1 v3.toInt64 _ hw l hl) sm_X2_mixed k_X2_200 rfl ⟨Nat.le_of_ble_eq_true rfl, Nat.le_of_ble_eq_true rfl⟩ (Nat.zero_le _) ⟨Nat.le_of_ble_eq_true rfl, Nat.le_of_ble_eq_true rfl⟩ dX2_digest_19 rfl ?_
        refine J_lstore_n (i := 1) (lv' := [(1, .long w4), (0, rf x0), (3, .int x3)]) rfl hC dX2_digest_22 (by decide) rfl ?_
        refine J_inc (j := 2) (k := 1) (lv' := [(3, .int (x3 + 1)), (1, .long w4), (0, rf x0)]) hC dX2_digest_23 (by decide) rfl (by decide) rfl ?_
        refine J_goto (tgt := 6) hC dX2_digest_26 (by decide) ?_
        refine J_sub [2, 1, 0] rfl ?_
        exact ih M w4 (x3 + 1) h
set_option maxHeartbeats 4000000 in
set_option maxRecDepth 100000 in
theorem tX2_digest_31 {C : JC} {r0 : Mem × Int64} (x0 : Option Nat) (hC : Ok C false cX2_digest 4 rm_X2_digest (some .long) RX2 (r0.1, Sum.inr (some (Value.long r0.2))))  (k57 : Mem → Int64 → Int32 → Option (Mem × Int64)) (hk57 : ∀ (M : Mem) (x1 : Int64) (x3 : Int32), k57 M x1 x3 = some r0 → J C 0 0 M 57 [(0, rf x0), (1, .long x1), (3, .int x3)] []) : ∀ (n : Nat) (M : Mem) (x1 : Int64) (x3 : Int32), fX2_digest_31 x0 k57 n M x1 x3 = some r0 → J C 0 0 M 31 [(0, rf x0), (1, .long x1), (3, .int x3)] [] := by
  intro n
  induction n with
  | zero => intro M x1 x3 h; have h : none = some r0 := h; cases h
  | succ n ih =>
    intro M x1 x3 h
    rw [fX2_digest_31] at h
    refine J_iload_n (j := 2) hC dX2_digest_31 rfl ?_
    refine J_iconst (v := 5) hC dX2_digest_32 (by decide) ?_
    refine J_icmp_ge (tgt := 57) hC dX2_digest_33 (by decide) (fun c8 => ?_) (fun c8 => ?_)
    · have h := ite_t c8 h
      refine J_sub [0, 1, 2] rfl ?_
      exact hk57 M x1 x3 h
    · have h := ite_f c8 h
      refine J_aload_n (j := 0) hC dX2_digest_36 rfl ?_
      refine J_lload_n (j := 1) hC dX2_digest_37 rfl ?_
      refine J_aload_n (j := 0) hC dX2_digest_38 rfl ?_
      refine J_g2_0 hC k_X2_12 dX2_digest_39 h (fun v9 _ h => ?_)
      refine J_g1_0 hC k_X2_69 dX2_digest_42 h (fun v10 _ h => ?_)
      refine J_iload_n (j := 2) hC dX2_digest_45 rfl ?_
      refine J_aald9 hC dX2_digest_46 h (fun v11 _ h => ?_)
      refine ck_c h (fun ho h => ?_)
      refine bnd_c h (fun w12 hw h => ?_)
      refine J_callV (As := [.long x1, rf v11]) (M' := w12.1) (rv := some (Value.long w12.2)) (st := []) hC (fun l hl => cX2_mixedPolynomial_ok M x0 x1 v11 _ hw l hl) vm_X2_mixedPolynomial k_X2_204 ho ⟨rfl, rfl⟩ rfl ⟨Nat.le_of_ble_eq_true rfl, Nat.le_of_ble_eq_true rfl⟩ (Nat.zero_le _) ⟨Nat.le_of_ble_eq_true rfl, Nat.le_of_ble_eq_true rfl⟩ dX2_digest_47 rfl ?_
      refine J_lstore_n (i := 1) (lv' := [(1, .long w12.2), (0, rf x0), (3, .int x3)]) rfl hC dX2_digest_50 (by decide) rfl ?_
      refine J_inc (j := 2) (k := 1) (lv' := [(3, .int (x3 + 1)), (1, .long w12.2), (0, rf x0)]) hC dX2_digest_51 (by decide) rfl (by decide) rfl ?_
      refine J_goto (tgt := 31) hC dX2_digest_54 (by decide) ?_
      refine J_sub [2, 1, 0] rfl ?_
      exact ih w12.1 w12.2 (x3 + 1) h
set_option maxHeartbeats 4000000 in
set_option maxRecDepth 100000 in
theorem cX2_digest_ok (M : Mem) (a0 : Option Nat) (r0 : Mem × Int64) (h : fX2_digest M a0 = some r0) : ∀ l : Launch, l.stackTraces = false → Con false l yX2_digest cX2_digest 4 (some .long) rm_X2_digest [rf a0] M (r0.1, Sum.inr (some (Value.long r0.2))) := by
  intro l hst
  refine Con.enter hst (own := RX2) (by decide +kernel) rfl (by exact Nat.le_of_ble_eq_true rfl) (lv0 := [(0, rf a0)]) (rfl) (fun C hC hin => ?_)
  unfold fX2_digest at h
  refine J_ldc2 (v := 3623) hC k_X2_195 dX2_digest_0 ?_
  refine J_lstore_n (i := 1) (lv' := [(1, .long 3623), (0, rf a0)]) rfl hC dX2_digest_3 (by decide) rfl ?_
  refine J_iconst (v := 0) hC dX2_digest_4 (by decide) ?_
  refine J_istore_n (i := 3) (lv' := [(3, .int 0), (1, .long 3623), (0, rf a0)]) rfl hC dX2_digest_5 (by decide) rfl ?_
  refine J_sub [2, 1, 0] rfl ?_
  refine tX2_digest_6 a0 hC _ (fun M5 x6 x7 h => ?_) FU M 3623 0 h
  · refine J_iconst (v := 0) hC dX2_digest_29 (by decide) ?_
    refine J_istore_n (i := 3) (lv' := [(3, .int 0), (0, rf a0), (1, .long x6)]) rfl hC dX2_digest_30 (by decide) rfl ?_
    refine J_sub [1, 2, 0] rfl ?_
    refine tX2_digest_31 a0 hC _ (fun M13 x14 x15 h => ?_) FU M5 x6 0 h
    · refine J_aload_n (j := 0) hC dX2_digest_57 rfl ?_
      refine J_lload_n (j := 1) hC dX2_digest_58 rfl ?_
      refine ck_c h (fun ho h => ?_)
      refine bnd_c h (fun w16 hw h => ?_)
      refine J_callV (As := [.long x14]) (M' := M13) (rv := some (Value.long w16)) (st := []) hC (fun l hl => cX2_mixedPairs_ok M13 a0 x14 _ hw l hl) vm_X2_mixedPairs k_X2_208 ho ⟨rfl, rfl⟩ rfl ⟨Nat.le_of_ble_eq_true rfl, Nat.le_of_ble_eq_true rfl⟩ (Nat.zero_le _) ⟨Nat.le_of_ble_eq_true rfl, Nat.le_of_ble_eq_true rfl⟩ dX2_digest_59 rfl ?_
      refine J_lstore_n (i := 1) (lv' := [(1, .long w16), (0, rf a0), (3, .int x15)]) rfl hC dX2_digest_62 (by decide) rfl ?_
      refine J_aload_n (j := 1) hC dX2_digest_63 rfl ?_
      refine J_lload_n (j := 0) hC dX2_digest_64 rfl ?_
      refine ck_c h (fun ho h => ?_)
      refine bnd_c h (fun w17 hw h => ?_)
      refine J_callV (As := [.long w16]) (M' := w17.1) (rv := some (Value.long w17.2)) (st := []) hC (fun l hl => cX2_mixedWhole_ok M13 a0 w16 _ hw l hl) vm_X2_mixedWhole k_X2_212 ho ⟨rfl, rfl⟩ rfl ⟨Nat.le_of_ble_eq_true rfl, Nat.le_of_ble_eq_true rfl⟩ (Nat.zero_le _) ⟨Nat.le_of_ble_eq_true rfl, Nat.le_of_ble_eq_true rfl⟩ dX2_digest_65 rfl ?_
      refine J_lstore_n (i := 1) (lv' := [(1, .long w17.2), (0, rf a0), (3, .int x15)]) rfl hC dX2_digest_68 (by decide) rfl ?_
      refine J_aload_n (j := 1) hC dX2_digest_69 rfl ?_
      refine J_lload_n (j := 0) hC dX2_digest_70 rfl ?_
      refine ck_c h (fun ho h => ?_)
      refine bnd_c h (fun w18 hw h => ?_)
      refine J_callV (As := [.long w17.2]) (M' := w17.1) (rv := some (Value.long w18)) (st := []) hC (fun l hl => cX2_mixedTexts_ok w17.1 a0 w17.2 _ hw l hl) vm_X2_mixedTexts k_X2_215 ho ⟨rfl, rfl⟩ rfl ⟨Nat.le_of_ble_eq_true rfl, Nat.le_of_ble_eq_true rfl⟩ (Nat.zero_le _) ⟨Nat.le_of_ble_eq_true rfl, Nat.le_of_ble_eq_true rfl⟩ dX2_digest_71 rfl ?_
      exact J_lret hC dX2_digest_74 (by have h9 := Option.some.inj h; subst h9; rfl) (Nat.le_of_ble_eq_true rfl) (Nat.le_of_ble_eq_true rfl)
abbrev rm_X3_init : Room := { frames := 1, cells := 8, slots := 593, locals := 20 }

set_option maxHeartbeats 4000000 in
set_option maxRecDepth 100000 in
theorem tX3_init_75 {C : JC} {r0 : Mem} (x0 : Option Nat) (hC : Ok C false cX3_init 2 rm_X3_init none RX3 (r0, Sum.inr none))  (k98 : Mem → Int32 → Option (Mem)) (hk98 : ∀ (M : Mem) (x1 : Int32), k98 M x1 = some r0 → J C 8 593 M 98 [(0, rf x0), (1, .int x1)] []) : ∀ (n : Nat) (M : Mem) (x1 : Int32), fX3_init_75 x0 k98 n M x1 = some r0 → J C 8 593 M 75 [(0, rf x0), (1, .int x1)] [] := by
  intro n
  induction n with
  | zero => intro M x1 h; have h : none = some r0 := h; cases h
  | succ n ih =>
    intro M x1 h
    rw [fX3_init_75] at h
    refine J_iload_n (j := 1) hC dX3_init_75 rfl ?_
    refine J_iconst (v := 5) hC dX3_init_76 (by decide) ?_
    refine J_icmp_ge (tgt := 98) hC dX3_init_77 (by decide) (fun c18 => ?_) (fun c18 => ?_)
    · have h := ite_t c18 h
      refine J_sub [0, 1] rfl ?_
      exact hk98 M x1 h
    · have h := ite_f c18 h
      refine J_aload_n (j := 0) hC dX3_init_80 rfl ?_
      refine J_g3_1 hC k_X3_7 dX3_init_81 h (fun v19 _ h => ?_)
      refine J_iconst (v := 0) hC dX3_init_84 (by decide) ?_
      refine J_bipush (v := 9) hC dX3_init_85 (by decide) ?_
      refine J_iload_n (j := 1) hC dX3_init_87 rfl ?_
      refine J_imul hC dX3_init_88 ?_
      refine J_iadd hC dX3_init_89 ?_
      refine J_iconst (v := 1) hC dX3_init_90 (by decide) ?_
      refine J_iast hC dX3_init_91 h (fun M20 _ h => ?_)
      refine J_inc (j := 1) (k := 1) (lv' := [(1, .int (x1 + 1)), (0, rf x0)]) hC dX3_init_92 (by decide) rfl (by decide) rfl ?_
      refine J_goto (tgt := 75) hC dX3_init_95 (by decide) ?_
      refine J_sub [1, 0] rfl ?_
      exact ih M20 (x1 + 1) h
set_option maxHeartbeats 4000000 in
set_option maxRecDepth 100000 in
theorem cX3_init_ok (M : Mem) (a0 : Option Nat) (r0 : Mem) (h : fX3_init M a0 = some r0) : ∀ l : Launch, l.stackTraces = false → Con false l yX3_init cX3_init 2 none rm_X3_init [rf a0] M (r0, Sum.inr none) := by
  intro l hst
  refine Con.enter hst (own := RX3) (by decide +kernel) rfl (by exact Nat.le_of_ble_eq_true rfl) (lv0 := [(0, rf a0)]) (rfl) (fun C hC hin => ?_)
  unfold fX3_init at h
  refine J_aload_n (j := 0) hC dX3_init_0 rfl ?_
  refine ck_c h (fun ho h => ?_)
  refine J_objInit hC k_X3_1 (ho.imp fun _ q => q.1) (Nat.le_of_ble_eq_true rfl) (Nat.le_of_ble_eq_true rfl) dX3_init_1 ?_
  refine J_aload_n (j := 0) hC dX3_init_4 rfl ?_
  refine J_bipush (v := 56) hC dX3_init_5 (by decide) ?_
  refine J_newa4 (n' := 56) hC (by decide) (by decide) (Nat.le_of_ble_eq_true rfl) (Nat.le_of_ble_eq_true rfl) dX3_init_7 h (fun M1 _ h => ?_)
  refine J_p3_1 hC (hin rfl) rfl k_X3_7 dX3_init_9 h (fun M2 _ h => ?_)
  refine J_aload_n (j := 0) hC dX3_init_12 rfl ?_
  refine J_sipush (v := 336) hC dX3_init_13 (by decide) ?_
  refine J_newa4 (n' := 336) hC (by decide) (by decide) (Nat.le_of_ble_eq_true rfl) (Nat.le_of_ble_eq_true rfl) dX3_init_16 h (fun M3 _ h => ?_)
  refine J_p3_2 hC (hin rfl) rfl k_X3_13 dX3_init_18 h (fun M4 _ h => ?_)
  refine J_aload_n (j := 0) hC dX3_init_21 rfl ?_
  refine J_bipush (v := 112) hC dX3_init_22 (by decide) ?_
  refine J_newa4 (n' := 112) hC (by decide) (by decide) (Nat.le_of_ble_eq_true rfl) (Nat.le_of_ble_eq_true rfl) dX3_init_24 h (fun M5 _ h => ?_)
  refine J_p3_4 hC (hin rfl) rfl k_X3_16 dX3_init_26 h (fun M6 _ h => ?_)
  refine J_aload_n (j := 0) hC dX3_init_29 rfl ?_
  refine J_iconst (v := 2) hC dX3_init_30 (by decide) ?_
  refine J_newa6 (n' := 2) hC (by decide) (by decide) (Nat.le_of_ble_eq_true rfl) (Nat.le_of_ble_eq_true rfl) dX3_init_31 h (fun M7 _ h => ?_)
  refine J_p3_5 hC (hin rfl) rfl k_X3_19 dX3_init_33 h (fun M8 _ h => ?_)
  refine J_aload_n (j := 0) hC dX3_init_36 rfl ?_
  refine J_bipush (v := 60) hC dX3_init_37 (by decide) ?_
  refine J_newa4 (n' := 60) hC (by decide) (by decide) (Nat.le_of_ble_eq_true rfl) (Nat.le_of_ble_eq_true rfl) dX3_init_39 h (fun M9 _ h => ?_)
  refine J_p3_6 hC (hin rfl) rfl k_X3_23 dX3_init_41 h (fun M10 _ h => ?_)
  refine J_aload_n (j := 0) hC dX3_init_44 rfl ?_
  refine J_bipush (v := 9) hC dX3_init_45 (by decide) ?_
  refine J_newa4 (n' := 9) hC (by decide) (by decide) (Nat.le_of_ble_eq_true rfl) (Nat.le_of_ble_eq_true rfl) dX3_init_47 h (fun M11 _ h => ?_)
  refine J_p3_8 hC (hin rfl) rfl k_X3_26 dX3_init_49 h (fun M12 _ h => ?_)
  refine J_aload_n (j := 0) hC dX3_init_52 rfl ?_
  refine J_bipush (v := 9) hC dX3_init_53 (by decide) ?_
  refine J_newa4 (n' := 9) hC (by decide) (by decide) (Nat.le_of_ble_eq_true rfl) (Nat.le_of_ble_eq_true rfl) dX3_init_55 h (fun M13 _ h => ?_)
  refine J_p3_9 hC (hin rfl) rfl k_X3_29 dX3_init_57 h (fun M14 _ h => ?_)
  refine J_aload_n (j := 0) hC dX3_init_60 rfl ?_
  refine J_bipush (v := 9) hC dX3_init_61 (by decide) ?_
  refine J_newa5 (n' := 9) hC (by decide) (by decide) (Nat.le_of_ble_eq_true rfl) (Nat.le_of_ble_eq_true rfl) dX3_init_63 h (fun M15 _ h => ?_)
  refine J_p3_11 hC (hin rfl) rfl k_X3_32 dX3_init_65 h (fun M16 _ h => ?_)
  refine J_aload_n (j := 0) hC dX3_init_68 rfl ?_
  refine J_iconst (v := 0) hC dX3_init_69 (by decide) ?_
  refine J_p3_0 hC k_X3_36 dX3_init_70 h (fun M17 _ h => ?_)
  refine J_iconst (v := 0) hC dX3_init_73 (by decide) ?_
  refine J_istore_n (i := 1) (lv' := [(1, .int 0), (0, rf a0)]) rfl hC dX3_init_74 (by decide) rfl ?_
  refine J_sub [1, 0] rfl ?_
  refine tX3_init_75 a0 hC _ (fun M21 x22 h => ?_) FU M17 0 h
  · exact J_vret hC dX3_init_98 (by have h9 := Option.some.inj h; subst h9; rfl) (Nat.le_of_ble_eq_true rfl) (Nat.le_of_ble_eq_true rfl)
abbrev rm_X3_thrown : Room := { frames := 0, cells := 0, slots := 0, locals := 0 }

set_option maxHeartbeats 4000000 in
set_option maxRecDepth 100000 in
theorem cX3_thrown_ok (M : Mem) (a0 : Option Nat) (r0 : Int32) (h : fX3_thrown M a0 = some r0) : ∀ l : Launch, l.stackTraces = false → Con false l yX3_thrown cX3_thrown 1 (some .int) rm_X3_thrown [rf a0] M (M, Sum.inr (some (Value.int r0))) := by
  intro l hst
  refine Con.enter hst (own := RX3) (by decide +kernel) rfl (by exact Nat.le_of_ble_eq_true rfl) (lv0 := [(0, rf a0)]) (rfl) (fun C hC hin => ?_)
  unfold fX3_thrown at h
  refine J_aload_n (j := 0) hC dX3_thrown_0 rfl ?_
  refine J_g3_0 hC k_X3_36 dX3_thrown_1 h (fun v1 _ h => ?_)
  exact J_iret hC dX3_thrown_4 (by have h9 := Option.some.inj h; subst h9; rfl) (Nat.le_of_ble_eq_true rfl) (Nat.le_of_ble_eq_true rfl)
abbrev rm_X3_in : Room := { frames := 0, cells := 0, slots := 0, locals := 0 }

set_option maxHeartbeats 4000000 in
set_option maxRecDepth 100000 in
theorem cX3_in_ok (M : Mem) (a0 : Int32) (a1 : Int32) (a2 : Int32) (r0 : Int32) (h : fX3_in M a0 a1 a2 = some r0) : ∀ l : Launch, l.stackTraces = false → Con false l yX3_in cX3_in 3 (some .boolean) rm_X3_in [.int a0, .int a1, .int a2] M (M, Sum.inr (some (Value.int r0))) := by
  intro l hst
  refine Con.enter hst (own := RX3) (by decide +kernel) rfl (by exact Nat.le_of_ble_eq_true rfl) (lv0 := [(0, .int a0), (1, .int a1), (2, .int a2)]) (rfl) (fun C hC hin => ?_)
  unfold fX3_in at h
  refine J_iload_n (j := 0) hC dX3_in_0 rfl ?_
  refine J_iload_n (j := 1) hC dX3_in_1 rfl ?_
  have hj : ∀ (z1 : Int32), z1 = (if a0 < a1 then 0 else (if a2 < a0 then 0 else 1)) → J C 0 0 M 15 [(0, .int a0), (1, .int a1), (2, .int a2)] [.int z1] := by
    intro z1 ez1
    subst ez1
    exact J_zret hC dX3_in_15 (by (repeat' split) <;> decide) (by have h9 := Option.some.inj h; subst h9; rfl) (Nat.le_of_ble_eq_true rfl) (Nat.le_of_ble_eq_true rfl)
  refine J_icmp_lt (tgt := 14) hC dX3_in_2 (by decide) (fun c2 => ?_) (fun c2 => ?_)
  · refine J_iconst (v := 0) hC dX3_in_14 (by decide) ?_
    refine J_sub [0, 1, 2] rfl ?_
    exact hj _ (if_pos c2).symm
  · refine J_iload_n (j := 0) hC dX3_in_5 rfl ?_
    refine J_iload_n (j := 2) hC dX3_in_6 rfl ?_
    refine J_icmp_gt (tgt := 14) hC dX3_in_7 (by decide) (fun c3 => ?_) (fun c3 => ?_)
    · refine J_iconst (v := 0) hC dX3_in_14 (by decide) ?_
      refine J_sub [0, 1, 2] rfl ?_
      exact hj _ ((if_neg c2).trans (if_pos c3)).symm
    · refine J_iconst (v := 1) hC dX3_in_10 (by decide) ?_
      refine J_goto (tgt := 15) hC dX3_in_11 (by decide) ?_
      refine J_sub [0, 1, 2] rfl ?_
      exact hj _ ((if_neg c2).trans (if_neg c3)).symm
abbrev rm_X3_fails : Room := { frames := 0, cells := 0, slots := 0, locals := 0 }

set_option maxHeartbeats 4000000 in
set_option maxRecDepth 100000 in
theorem cX3_fails_ok (M : Mem) (a0 : Option Nat) (a1 : Int32) (r0 : Mem × Int32) (h : fX3_fails M a0 a1 = some r0) : ∀ l : Launch, l.stackTraces = false → Con false l yX3_fails cX3_fails 2 (some .int) rm_X3_fails [rf a0, .int a1] M (r0.1, Sum.inr (some (Value.int r0.2))) := by
  intro l hst
  refine Con.enter hst (own := RX3) (by decide +kernel) rfl (by exact Nat.le_of_ble_eq_true rfl) (lv0 := [(0, rf a0), (1, .int a1)]) (rfl) (fun C hC hin => ?_)
  unfold fX3_fails at h
  refine J_aload_n (j := 0) hC dX3_fails_0 rfl ?_
  refine J_iload_n (j := 1) hC dX3_fails_1 rfl ?_
  refine J_p3_0 hC k_X3_36 dX3_fails_2 h (fun M1 _ h => ?_)
  refine J_iconst (v := 0) hC dX3_fails_5 (by decide) ?_
  exact J_iret hC dX3_fails_6 (by have h9 := Option.some.inj h; subst h9; rfl) (Nat.le_of_ble_eq_true rfl) (Nat.le_of_ble_eq_true rfl)
abbrev rm_X3_isPoly : Room := { frames := 1, cells := 0, slots := 0, locals := 22 }

set_option maxHeartbeats 4000000 in
set_option maxRecDepth 100000 in
theorem cX3_isPoly_ok (M : Mem) (a0 : Int32) (r0 : Int32) (h : fX3_isPoly M a0 = some r0) : ∀ l : Launch, l.stackTraces = false → Con false l yX3_isPoly cX3_isPoly 1 (some .boolean) rm_X3_isPoly [.int a0] M (M, Sum.inr (some (Value.int r0))) := by
  intro l hst
  refine Con.enter hst (own := RX3) (by decide +kernel) rfl (by exact Nat.le_of_ble_eq_true rfl) (lv0 := [(0, .int a0)]) (rfl) (fun C hC hin => ?_)
  unfold fX3_isPoly at h
  refine J_iload_n (j := 0) hC dX3_isPoly_0 rfl ?_
  refine J_iconst (v := 0) hC dX3_isPoly_1 (by decide) ?_
  refine J_iconst (v := 4) hC dX3_isPoly_2 (by decide) ?_
  refine bnd_c h (fun w1 hw h => ?_)
  refine J_callS (As := [.int a0, .int 0, .int 4]) (M' := M) (rv := some (Value.int w1)) (st := []) hC (fun l hl => cX3_in_ok M a0 0 4 _ hw l hl) sm_X3_in k_X3_40 rfl ⟨Nat.le_of_ble_eq_true rfl, Nat.le_of_ble_eq_true rfl⟩ (Nat.zero_le _) ⟨Nat.le_of_ble_eq_true rfl, Nat.le_of_ble_eq_true rfl⟩ dX3_isPoly_3 rfl ?_
  refine chk_c h (fun hz h => ?_)
  exact J_zret hC dX3_isPoly_6 (zb_nar hz) (by have h9 := Option.some.inj h; subst h9; rfl) (Nat.le_of_ble_eq_true rfl) (Nat.le_of_ble_eq_true rfl)
abbrev rm_X3_isSign : Room := { frames := 1, cells := 0, slots := 0, locals := 22 }

set_option maxHeartbeats 4000000 in
set_option maxRecDepth 100000 in
theorem cX3_isSign_ok (M : Mem) (a0 : Int32) (r0 : Int32) (h : fX3_isSign M a0 = some r0) : ∀ l : Launch, l.stackTraces = false → Con false l yX3_isSign cX3_isSign 1 (some .boolean) rm_X3_isSign [.int a0] M (M, Sum.inr (some (Value.int r0))) := by
  intro l hst
  refine Con.enter hst (own := RX3) (by decide +kernel) rfl (by exact Nat.le_of_ble_eq_true rfl) (lv0 := [(0, .int a0)]) (rfl) (fun C hC hin => ?_)
  unfold fX3_isSign at h
  refine J_iload_n (j := 0) hC dX3_isSign_0 rfl ?_
  refine J_iconst (v := (-1)) hC dX3_isSign_1 (by decide) ?_
  refine J_iconst (v := 1) hC dX3_isSign_2 (by decide) ?_
  refine bnd_c h (fun w1 hw h => ?_)
  refine J_callS (As := [.int a0, .int (-1), .int 1]) (M' := M) (rv := some (Value.int w1)) (st := []) hC (fun l hl => cX3_in_ok M a0 (-1) 1 _ hw l hl) sm_X3_in k_X3_40 rfl ⟨Nat.le_of_ble_eq_true rfl, Nat.le_of_ble_eq_true rfl⟩ (Nat.zero_le _) ⟨Nat.le_of_ble_eq_true rfl, Nat.le_of_ble_eq_true rfl⟩ dX3_isSign_3 rfl ?_
  refine chk_c h (fun hz h => ?_)
  exact J_zret hC dX3_isSign_6 (zb_nar hz) (by have h9 := Option.some.inj h; subst h9; rfl) (Nat.le_of_ble_eq_true rfl) (Nat.le_of_ble_eq_true rfl)
abbrev rm_X3_signAt : Room := { frames := 0, cells := 0, slots := 0, locals := 0 }

set_option maxHeartbeats 4000000 in
set_option maxRecDepth 100000 in
theorem cX3_signAt_ok (M : Mem) (a0 : Option Nat) (a1 : Int32) (a2 : Int32) (r0 : Int32) (h : fX3_signAt M a0 a1 a2 = some r0) : ∀ l : Launch, l.stackTraces = false → Con false l yX3_signAt cX3_signAt 3 (some .int) rm_X3_signAt [rf a0, .int a1, .int a2] M (M, Sum.inr (some (Value.int r0))) := by
  intro l hst
  refine Con.enter hst (own := RX3) (by decide +kernel) rfl (by exact Nat.le_of_ble_eq_true rfl) (lv0 := [(0, rf a0), (1, .int a1), (2, .int a2)]) (rfl) (fun C hC hin => ?_)
  unfold fX3_signAt at h
  refine J_iload_n (j := 2) hC dX3_signAt_0 rfl ?_
  refine J_if_lt (tgt := 10) hC dX3_signAt_1 (by decide) (fun c1 => ?_) (fun c1 => ?_)
  · have h := ite_t c1 h
    refine J_iconst (v := 0) hC dX3_signAt_10 (by decide) ?_
    refine J_goto (tgt := 27) hC dX3_signAt_11 (by decide) ?_
    exact J_iret hC dX3_signAt_27 (by have h9 := Option.some.inj h; subst h9; rfl) (Nat.le_of_ble_eq_true rfl) (Nat.le_of_ble_eq_true rfl)
  · have h := ite_f c1 h
    refine J_iload_n (j := 2) hC dX3_signAt_4 rfl ?_
    refine J_bipush (v := 9) hC dX3_signAt_5 (by decide) ?_
    refine J_icmp_lt (tgt := 14) hC dX3_signAt_7 (by decide) (fun c2 => ?_) (fun c2 => ?_)
    · have h := ite_t c2 h
      refine J_aload_n (j := 0) hC dX3_signAt_14 rfl ?_
      refine J_g3_1 hC k_X3_7 dX3_signAt_15 h (fun v3 _ h => ?_)
      refine J_iconst (v := 0) hC dX3_signAt_18 (by decide) ?_
      refine J_bipush (v := 9) hC dX3_signAt_19 (by decide) ?_
      refine J_iload_n (j := 1) hC dX3_signAt_21 rfl ?_
      refine J_imul hC dX3_signAt_22 ?_
      refine J_iadd hC dX3_signAt_23 ?_
      refine J_iload_n (j := 2) hC dX3_signAt_24 rfl ?_
      refine J_iadd hC dX3_signAt_25 ?_
      refine J_iald hC dX3_signAt_26 h (fun v4 _ h => ?_)
      exact J_iret hC dX3_signAt_27 (by have h9 := Option.some.inj h; subst h9; rfl) (Nat.le_of_ble_eq_true rfl) (Nat.le_of_ble_eq_true rfl)
    · have h := ite_f c2 h
      refine J_iconst (v := 0) hC dX3_signAt_10 (by decide) ?_
      refine J_goto (tgt := 27) hC dX3_signAt_11 (by decide) ?_
      exact J_iret hC dX3_signAt_27 (by have h9 := Option.some.inj h; subst h9; rfl) (Nat.le_of_ble_eq_true rfl) (Nat.le_of_ble_eq_true rfl)
abbrev rm_X3_degree : Room := { frames := 1, cells := 0, slots := 0, locals := 22 }

set_option maxHeartbeats 4000000 in
set_option maxRecDepth 100000 in
theorem tX3_degree_4 {C : JC} {r0 : Int32} (M : Mem) (x0 : Option Nat) (x1 : Int32) (hC : Ok C false cX3_degree 4 rm_X3_degree (some .int) RX3 (M, Sum.inr (some (Value.int r0))))  (k31 : Int32 → Int32 → Option (Int32)) (hk31 : ∀ (x2 : Int32) (x3 : Int32), k31 x2 x3 = some r0 → J C 0 0 M 31 [(0, rf x0), (1, .int x1), (2, .int x2), (3, .int x3)] []) : ∀ (n : Nat) (x2 : Int32) (x3 : Int32), fX3_degree_4 M x0 x1 k31 n x2 x3 = some r0 → J C 0 0 M 4 [(0, rf x0), (1, .int x1), (2, .int x2), (3, .int x3)] [] := by
  intro n
  induction n with
  | zero => intro x2 x3 h; have h : none = some r0 := h; cases h
  | succ n ih =>
    intro x2 x3 h
    rw [fX3_degree_4] at h
    refine J_iload_n (j := 3) hC dX3_degree_4 rfl ?_
    refine J_bipush (v := 9) hC dX3_degree_5 (by decide) ?_
    refine J_icmp_ge (tgt := 31) hC dX3_degree_7 (by decide) (fun c1 => ?_) (fun c1 => ?_)
    · have h := ite_t c1 h
      refine J_sub [0, 1, 2, 3] rfl ?_
      exact hk31 x2 x3 h
    · have h := ite_f c1 h
      refine J_aload_n (j := 0) hC dX3_degree_10 rfl ?_
      refine J_iload_n (j := 1) hC dX3_degree_11 rfl ?_
      refine J_iload_n (j := 3) hC dX3_degree_12 rfl ?_
      refine ck_c h (fun ho h => ?_)
      refine bnd_c h (fun w2 hw h => ?_)
      refine J_callV (As := [.int x1, .int x3]) (M' := M) (rv := some (Value.int w2)) (st := []) hC (fun l hl => cX3_signAt_ok M x0 x1 x3 _ hw l hl) vm_X3_signAt k_X3_44 ho ⟨rfl, rfl⟩ rfl ⟨Nat.le_of_ble_eq_true rfl, Nat.le_of_ble_eq_true rfl⟩ (Nat.zero_le _) ⟨Nat.le_of_ble_eq_true rfl, Nat.le_of_ble_eq_true rfl⟩ dX3_degree_13 rfl ?_
      have hj : ∀ (z3 : Int32), z3 = (if w2 = 0 then x2 else x3) → J C 0 0 M 24 [(0, rf x0), (1, .int x1), (2, .int x2), (3, .int x3)] [.int z3] := by
        intro z3 ez3
        subst ez3
        refine J_istore_n (i := 2) (lv' := [(2, .int (if w2 = 0 then x2 else x3)), (0, rf x0), (1, .int x1), (3, .int x3)]) rfl hC dX3_degree_24 (by decide) rfl ?_
        refine J_inc (j := 3) (k := 1) (lv' := [(3, .int (x3 + 1)), (2, .int (if w2 = 0 then x2 else x3)), (0, rf x0), (1, .int x1)]) hC dX3_degree_25 (by decide) rfl (by decide) rfl ?_
        refine J_goto (tgt := 4) hC dX3_degree_28 (by decide) ?_
        refine J_sub [2, 3, 1, 0] rfl ?_
        exact ih (if w2 = 0 then x2 else x3) (x3 + 1) h
      refine J_if_eq (tgt := 23) hC dX3_degree_16 (by decide) (fun c4 => ?_) (fun c4 => ?_)
      · refine J_iload_n (j := 2) hC dX3_degree_23 rfl ?_
        refine J_sub [0, 1, 2, 3] rfl ?_
        exact hj _ (if_pos c4).symm
      · refine J_iload_n (j := 3) hC dX3_degree_19 rfl ?_
        refine J_goto (tgt := 24) hC dX3_degree_20 (by decide) ?_
        refine J_sub [0, 1, 2, 3] rfl ?_
        exact hj _ (if_neg c4).symm
set_option maxHeartbeats 4000000 in
set_option maxRecDepth 100000 in
theorem cX3_degree_ok (M : Mem) (a0 : Option Nat) (a1 : Int32) (r0 : Int32) (h : fX3_degree M a0 a1 = some r0) : ∀ l : Launch, l.stackTraces = false → Con false l yX3_degree cX3_degree 4 (some .int) rm_X3_degree [rf a0, .int a1] M (M, Sum.inr (some (Value.int r0))) := by
  intro l hst
  refine Con.enter hst (own := RX3) (by decide +kernel) rfl (by exact Nat.le_of_ble_eq_true rfl) (lv0 := [(0, rf a0), (1, .int a1)]) (rfl) (fun C hC hin => ?_)
  unfold fX3_degree at h
  refine J_iconst (v := 0) hC dX3_degree_0 (by decide) ?_
  refine J_istore_n (i := 2) (lv' := [(2, .int 0), (0, rf a0), (1, .int a1)]) rfl hC dX3_degree_1 (by decide) rfl ?_
  refine J_iconst (v := 0) hC dX3_degree_2 (by decide) ?_
  refine J_istore_n (i := 3) (lv' := [(3, .int 0), (2, .int 0), (0, rf a0), (1, .int a1)]) rfl hC dX3_degree_3 (by decide) rfl ?_
  refine J_sub [2, 3, 1, 0] rfl ?_
  refine tX3_degree_4 M a0 a1 hC _ (fun x5 x6 h => ?_) FU 0 0 h
  · refine J_iload_n (j := 2) hC dX3_degree_31 rfl ?_
    exact J_iret hC dX3_degree_32 (by have h9 := Option.some.inj h; subst h9; rfl) (Nat.le_of_ble_eq_true rfl) (Nat.le_of_ble_eq_true rfl)
abbrev rm_X3_saves : Room := { frames := 0, cells := 0, slots := 0, locals := 0 }

set_option maxHeartbeats 4000000 in
set_option maxRecDepth 100000 in
theorem tX3_saves_11 {C : JC} {r0 : Mem} (x0 : Option Nat) (hC : Ok C false cX3_saves 2 rm_X3_saves none RX3 (r0, Sum.inr none))  (k39 : Mem → Int32 → Option (Mem)) (hk39 : ∀ (M : Mem) (x1 : Int32), k39 M x1 = some r0 → J C 0 0 M 39 [(0, rf x0), (1, .int x1)] []) : ∀ (n : Nat) (M : Mem) (x1 : Int32), fX3_saves_11 x0 k39 n M x1 = some r0 → J C 0 0 M 11 [(0, rf x0), (1, .int x1)] [] := by
  intro n
  induction n with
  | zero => intro M x1 h; have h : none = some r0 := h; cases h
  | succ n ih =>
    intro M x1 h
    rw [fX3_saves_11] at h
    refine J_iload_n (j := 1) hC dX3_saves_11 rfl ?_
    refine J_sipush (v := 280) hC dX3_saves_12 (by decide) ?_
    refine J_icmp_ge (tgt := 39) hC dX3_saves_15 (by decide) (fun c3 => ?_) (fun c3 => ?_)
    · have h := ite_t c3 h
      refine J_sub [0, 1] rfl ?_
      exact hk39 M x1 h
    · have h := ite_f c3 h
      refine J_aload_n (j := 0) hC dX3_saves_18 rfl ?_
      refine J_g3_2 hC k_X3_13 dX3_saves_19 h (fun v4 _ h => ?_)
      refine J_iload_n (j := 1) hC dX3_saves_22 rfl ?_
      refine J_aload_n (j := 0) hC dX3_saves_23 rfl ?_
      refine J_g3_2 hC k_X3_13 dX3_saves_24 h (fun v5 _ h => ?_)
      refine J_iload_n (j := 1) hC dX3_saves_27 rfl ?_
      refine J_bipush (v := 56) hC dX3_saves_28 (by decide) ?_
      refine J_iadd hC dX3_saves_30 ?_
      refine J_iald hC dX3_saves_31 h (fun v6 _ h => ?_)
      refine J_iast hC dX3_saves_32 h (fun M7 _ h => ?_)
      refine J_inc (j := 1) (k := 1) (lv' := [(1, .int (x1 + 1)), (0, rf x0)]) hC dX3_saves_33 (by decide) rfl (by decide) rfl ?_
      refine J_goto (tgt := 11) hC dX3_saves_36 (by decide) ?_
      refine J_sub [1, 0] rfl ?_
      exact ih M7 (x1 + 1) h
set_option maxHeartbeats 4000000 in
set_option maxRecDepth 100000 in
theorem tX3_saves_51 {C : JC} {r0 : Mem} (x0 : Option Nat) (hC : Ok C false cX3_saves 2 rm_X3_saves none RX3 (r0, Sum.inr none))  (k83 : Mem → Int32 → Option (Mem)) (hk83 : ∀ (M : Mem) (x1 : Int32), k83 M x1 = some r0 → J C 0 0 M 83 [(0, rf x0), (1, .int x1)] []) : ∀ (n : Nat) (M : Mem) (x1 : Int32), fX3_saves_51 x0 k83 n M x1 = some r0 → J C 0 0 M 51 [(0, rf x0), (1, .int x1)] [] := by
  intro n
  induction n with
  | zero => intro M x1 h; have h : none = some r0 := h; cases h
  | succ n ih =>
    intro M x1 h
    rw [fX3_saves_51] at h
    refine J_iload_n (j := 1) hC dX3_saves_51 rfl ?_
    refine J_bipush (v := 56) hC dX3_saves_52 (by decide) ?_
    refine J_icmp_ge (tgt := 83) hC dX3_saves_54 (by decide) (fun c12 => ?_) (fun c12 => ?_)
    · have h := ite_t c12 h
      refine J_sub [0, 1] rfl ?_
      exact hk83 M x1 h
    · have h := ite_f c12 h
      refine J_aload_n (j := 0) hC dX3_saves_57 rfl ?_
      refine J_g3_2 hC k_X3_13 dX3_saves_58 h (fun v13 _ h => ?_)
      refine J_bipush (v := 56) hC dX3_saves_61 (by decide) ?_
      refine J_aload_n (j := 0) hC dX3_saves_63 rfl ?_
      refine J_g3_3 hC k_X3_48 dX3_saves_64 h (fun v14 _ h => ?_)
      refine J_imul hC dX3_saves_67 ?_
      refine J_iload_n (j := 1) hC dX3_saves_68 rfl ?_
      refine J_iadd hC dX3_saves_69 ?_
      refine J_aload_n (j := 0) hC dX3_saves_70 rfl ?_
      refine J_g3_1 hC k_X3_7 dX3_saves_71 h (fun v15 _ h => ?_)
      refine J_iload_n (j := 1) hC dX3_saves_74 rfl ?_
      refine J_iald hC dX3_saves_75 h (fun v16 _ h => ?_)
      refine J_iast hC dX3_saves_76 h (fun M17 _ h => ?_)
      refine J_inc (j := 1) (k := 1) (lv' := [(1, .int (x1 + 1)), (0, rf x0)]) hC dX3_saves_77 (by decide) rfl (by decide) rfl ?_
      refine J_goto (tgt := 51) hC dX3_saves_80 (by decide) ?_
      refine J_sub [1, 0] rfl ?_
      exact ih M17 (x1 + 1) h
set_option maxHeartbeats 4000000 in
set_option maxRecDepth 100000 in
theorem cX3_saves_ok (M : Mem) (a0 : Option Nat) (r0 : Mem) (h : fX3_saves M a0 = some r0) : ∀ l : Launch, l.stackTraces = false → Con false l yX3_saves cX3_saves 2 none rm_X3_saves [rf a0] M (r0, Sum.inr none) := by
  intro l hst
  refine Con.enter hst (own := RX3) (by decide +kernel) rfl (by exact Nat.le_of_ble_eq_true rfl) (lv0 := [(0, rf a0)]) (rfl) (fun C hC hin => ?_)
  unfold fX3_saves at h
  refine J_aload_n (j := 0) hC dX3_saves_0 rfl ?_
  refine J_g3_3 hC k_X3_48 dX3_saves_1 h (fun v1 _ h => ?_)
  refine J_bipush (v := 6) hC dX3_saves_4 (by decide) ?_
  refine J_icmp_ne (tgt := 49) hC dX3_saves_6 (by decide) (fun c2 => ?_) (fun c2 => ?_)
  · have h := ite_f c2 h
    refine J_iconst (v := 0) hC dX3_saves_49 (by decide) ?_
    refine J_istore_n (i := 1) (lv' := [(1, .int 0), (0, rf a0)]) rfl hC dX3_saves_50 (by decide) rfl ?_
    refine J_sub [1, 0] rfl ?_
    refine tX3_saves_51 a0 hC _ (fun M28 x29 h => ?_) FU M 0 h
    · refine J_aload_n (j := 0) hC dX3_saves_83 rfl ?_
      refine J_dup hC dX3_saves_84 rfl ?_
      refine J_g3_3 hC k_X3_48 dX3_saves_85 h (fun v30 _ h => ?_)
      refine J_iconst (v := 1) hC dX3_saves_88 (by decide) ?_
      refine J_iadd hC dX3_saves_89 ?_
      refine J_p3_3 hC k_X3_48 dX3_saves_90 h (fun M31 _ h => ?_)
      exact J_vret hC dX3_saves_93 (by have h9 := Option.some.inj h; subst h9; rfl) (Nat.le_of_ble_eq_true rfl) (Nat.le_of_ble_eq_true rfl)
  · have h := ite_t c2 h
    refine J_iconst (v := 0) hC dX3_saves_9 (by decide) ?_
    refine J_istore_n (i := 1) (lv' := [(1, .int 0), (0, rf a0)]) rfl hC dX3_saves_10 (by decide) rfl ?_
    refine J_sub [1, 0] rfl ?_
    refine tX3_saves_11 a0 hC _ (fun M8 x9 h => ?_) FU M 0 h
    · refine J_aload_n (j := 0) hC dX3_saves_39 rfl ?_
      refine J_dup hC dX3_saves_40 rfl ?_
      refine J_g3_3 hC k_X3_48 dX3_saves_41 h (fun v10 _ h => ?_)
      refine J_iconst (v := 1) hC dX3_saves_44 (by decide) ?_
      refine J_isub hC dX3_saves_45 ?_
      refine J_p3_3 hC k_X3_48 dX3_saves_46 h (fun M11 _ h => ?_)
      refine J_iconst (v := 0) hC dX3_saves_49 (by decide) ?_
      refine J_istore_n (i := 1) (lv' := [(1, .int 0), (0, rf a0)]) rfl hC dX3_saves_50 (by decide) rfl ?_
      refine J_sub [1, 0] rfl ?_
      refine tX3_saves_51 a0 hC _ (fun M18 x19 h => ?_) FU M11 0 h
      · refine J_aload_n (j := 0) hC dX3_saves_83 rfl ?_
        refine J_dup hC dX3_saves_84 rfl ?_
        refine J_g3_3 hC k_X3_48 dX3_saves_85 h (fun v20 _ h => ?_)
        refine J_iconst (v := 1) hC dX3_saves_88 (by decide) ?_
        refine J_iadd hC dX3_saves_89 ?_
        refine J_p3_3 hC k_X3_48 dX3_saves_90 h (fun M21 _ h => ?_)
        exact J_vret hC dX3_saves_93 (by have h9 := Option.some.inj h; subst h9; rfl) (Nat.le_of_ble_eq_true rfl) (Nat.le_of_ble_eq_true rfl)
abbrev rm_X3_refuses : Room := { frames := 0, cells := 0, slots := 0, locals := 0 }

set_option maxHeartbeats 4000000 in
set_option maxRecDepth 100000 in
theorem cX3_refuses_ok (M : Mem) (a0 : Option Nat) (a1 : Int32) (r0 : Mem × Int32) (h : fX3_refuses M a0 a1 = some r0) : ∀ l : Launch, l.stackTraces = false → Con false l yX3_refuses cX3_refuses 2 (some .int) rm_X3_refuses [rf a0, .int a1] M (r0.1, Sum.inr (some (Value.int r0.2))) := by
  intro l hst
  refine Con.enter hst (own := RX3) (by decide +kernel) rfl (by exact Nat.le_of_ble_eq_true rfl) (lv0 := [(0, rf a0), (1, .int a1)]) (rfl) (fun C hC hin => ?_)
  unfold fX3_refuses at h
  refine J_aload_n (j := 0) hC dX3_refuses_0 rfl ?_
  refine J_g3_1 hC k_X3_7 dX3_refuses_1 h (fun v1 _ h => ?_)
  refine J_bipush (v := 55) hC dX3_refuses_4 (by decide) ?_
  refine J_dup2 hC dX3_refuses_6 rfl rfl ?_
  refine J_iald hC dX3_refuses_7 h (fun v2 _ h => ?_)
  refine J_iconst (v := 1) hC dX3_refuses_8 (by decide) ?_
  refine J_iadd hC dX3_refuses_9 ?_
  refine J_iast hC dX3_refuses_10 h (fun M3 _ h => ?_)
  refine J_iload_n (j := 1) hC dX3_refuses_11 rfl ?_
  exact J_iret hC dX3_refuses_12 (by have h9 := Option.some.inj h; subst h9; rfl) (Nat.le_of_ble_eq_true rfl) (Nat.le_of_ble_eq_true rfl)
abbrev rm_X3_isInSum : Room := { frames := 0, cells := 0, slots := 0, locals := 0 }

set_option maxHeartbeats 4000000 in
set_option maxRecDepth 100000 in
theorem cX3_isInSum_ok (M : Mem) (a0 : Int32) (a1 : Int32) (a2 : Int32) (r0 : Int32) (h : fX3_isInSum M a0 a1 a2 = some r0) : ∀ l : Launch, l.stackTraces = false → Con false l yX3_isInSum cX3_isInSum 3 (some .boolean) rm_X3_isInSum [.int a0, .int a1, .int a2] M (M, Sum.inr (some (Value.int r0))) := by
  intro l hst
  refine Con.enter hst (own := RX3) (by decide +kernel) rfl (by exact Nat.le_of_ble_eq_true rfl) (lv0 := [(0, .int a0), (1, .int a1), (2, .int a2)]) (rfl) (fun C hC hin => ?_)
  unfold fX3_isInSum at h
  refine J_iload_n (j := 1) hC dX3_isInSum_0 rfl ?_
  have hj : ∀ (z1 : Int32), z1 = (if a1 = 0 then (if a0 = a2 then 1 else 0) else (if a1 = (-a2) then 1 else (if a0 = a1 then 1 else 0))) → J C 0 0 M 28 [(0, .int a0), (1, .int a1), (2, .int a2)] [.int z1] := by
    intro z1 ez1
    subst ez1
    exact J_zret hC dX3_isInSum_28 (by (repeat' split) <;> decide) (by have h9 := Option.some.inj h; subst h9; rfl) (Nat.le_of_ble_eq_true rfl) (Nat.le_of_ble_eq_true rfl)
  refine J_if_eq (tgt := 10) hC dX3_isInSum_1 (by decide) (fun c2 => ?_) (fun c2 => ?_)
  · refine J_iload_n (j := 0) hC dX3_isInSum_10 rfl ?_
    refine J_iload_n (j := 1) hC dX3_isInSum_11 rfl ?_
    refine J_if_ne (tgt := 19) hC dX3_isInSum_12 (by decide) (fun c => absurd c2 c) (fun _ => ?_)
    refine J_iload_n (j := 2) hC dX3_isInSum_15 rfl ?_
    refine J_goto (tgt := 20) hC dX3_isInSum_16 (by decide) ?_
    refine J_icmp_ne (tgt := 27) hC dX3_isInSum_20 (by decide) (fun c3 => ?_) (fun c3 => ?_)
    · refine J_iconst (v := 0) hC dX3_isInSum_27 (by decide) ?_
      refine J_sub [0, 1, 2] rfl ?_
      exact hj _ ((if_pos c2).trans (if_neg c3)).symm
    · refine J_iconst (v := 1) hC dX3_isInSum_23 (by decide) ?_
      refine J_goto (tgt := 28) hC dX3_isInSum_24 (by decide) ?_
      refine J_sub [0, 1, 2] rfl ?_
      exact hj _ ((if_pos c2).trans (if_pos c3)).symm
  · refine J_iload_n (j := 1) hC dX3_isInSum_4 rfl ?_
    refine J_iload_n (j := 2) hC dX3_isInSum_5 rfl ?_
    refine J_ineg hC dX3_isInSum_6 ?_
    refine J_icmp_eq (tgt := 23) hC dX3_isInSum_7 (by decide) (fun c4 => ?_) (fun c4 => ?_)
    · refine J_iconst (v := 1) hC dX3_isInSum_23 (by decide) ?_
      refine J_goto (tgt := 28) hC dX3_isInSum_24 (by decide) ?_
      refine J_sub [0, 1, 2] rfl ?_
      exact hj _ ((if_neg c2).trans (if_pos c4)).symm
    · refine J_iload_n (j := 0) hC dX3_isInSum_10 rfl ?_
      refine J_iload_n (j := 1) hC dX3_isInSum_11 rfl ?_
      refine J_if_ne (tgt := 19) hC dX3_isInSum_12 (by decide) (fun _ => ?_) (fun c => absurd c c2)
      refine J_iload_n (j := 1) hC dX3_isInSum_19 rfl ?_
      refine J_icmp_ne (tgt := 27) hC dX3_isInSum_20 (by decide) (fun c5 => ?_) (fun c5 => ?_)
      · refine J_iconst (v := 0) hC dX3_isInSum_27 (by decide) ?_
        refine J_sub [0, 1, 2] rfl ?_
        exact hj _ (((if_neg c2).trans (if_neg c4)).trans (if_neg c5)).symm
      · refine J_iconst (v := 1) hC dX3_isInSum_23 (by decide) ?_
        refine J_goto (tgt := 28) hC dX3_isInSum_24 (by decide) ?_
        refine J_sub [0, 1, 2] rfl ?_
        exact hj _ (((if_neg c2).trans (if_neg c4)).trans (if_pos c5)).symm
abbrev rm_X3_changes : Room := { frames := 0, cells := 0, slots := 0, locals := 0 }

set_option maxHeartbeats 4000000 in
set_option maxRecDepth 100000 in
theorem tX3_changes_8 {C : JC} {r0 : Int32} (M : Mem) (x0 : Option Nat) (x1 : Int32) (x2 : Int32) (hC : Ok C false cX3_changes 7 rm_X3_changes (some .int) RX3 (M, Sum.inr (some (Value.int r0))))  (k111 : Int32 → Int32 → Int32 → Option (Int32)) (hk111 : ∀ (x3 : Int32) (x4 : Int32) (x5 : Int32), k111 x3 x4 x5 = some r0 → J C 0 0 M 111 [(0, rf x0), (1, .int x1), (2, .int x2), (3, .int x3), (4, .int x4), (5, .int x5)] []) : ∀ (n : Nat) (x3 : Int32) (x4 : Int32) (x5 : Int32), fX3_changes_8 M x0 x1 x2 k111 n x3 x4 x5 = some r0 → J C 0 0 M 8 [(0, rf x0), (1, .int x1), (2, .int x2), (3, .int x3), (4, .int x4), (5, .int x5)] [] := by
  intro n
  induction n with
  | zero => intro x3 x4 x5 h; have h : none = some r0 := h; cases h
  | succ n ih =>
    intro x3 x4 x5 h
    rw [fX3_changes_8] at h
    refine J_iload (j := 5) hC dX3_changes_8 rfl ?_
    refine J_iload_n (j := 1) hC dX3_changes_10 rfl ?_
    refine J_icmp_gt (tgt := 111) hC dX3_changes_11 (by decide) (fun c1 => ?_) (fun c1 => ?_)
    · have h := ite_t c1 h
      refine J_sub [0, 1, 2, 3, 4, 5] rfl ?_
      exact hk111 x3 x4 x5 h
    · have h := ite_f c1 h
      refine J_iload_n (j := 2) hC dX3_changes_14 rfl ?_
      refine J_if_ge (tgt := 34) hC dX3_changes_15 (by decide) (fun c2 => ?_) (fun c2 => ?_)
      · have h := ite_t c2 h
        refine J_aload_n (j := 0) hC dX3_changes_34 rfl ?_
        refine J_iload (j := 5) hC dX3_changes_35 rfl ?_
        refine J_iald hC dX3_changes_37 h (fun v3 _ h => ?_)
        refine J_istore (lv' := [(6, .int v3), (0, rf x0), (1, .int x1), (2, .int x2), (3, .int x3), (4, .int x4), (5, .int x5)]) hC dX3_changes_38 (by decide) rfl ?_
        refine J_iload_n (j := 4) hC dX3_changes_40 rfl ?_
        refine J_iload_n (j := 3) hC dX3_changes_41 rfl ?_
        have hj : ∀ (z10 : Int32), z10 = (if x2 = 0 then 0 else (if v3 = 0 then 0 else (if x4 = 0 then 0 else (if v3 = x4 then 0 else 1)))) → J C 0 0 M 67 [(6, .int v3), (0, rf x0), (1, .int x1), (2, .int x2), (3, .int x3), (4, .int x4), (5, .int x5)] [.int z10, .int x3] := by
          intro z10 ez10
          subst ez10
          refine J_iadd hC dX3_changes_67 ?_
          refine J_istore_n (i := 3) (lv' := [(3, .int (x3 + (if x2 = 0 then 0 else (if v3 = 0 then 0 else (if x4 = 0 then 0 else (if v3 = x4 then 0 else 1)))))), (6, .int v3), (0, rf x0), (1, .int x1), (2, .int x2), (4, .int x4), (5, .int x5)]) rfl hC dX3_changes_68 (by decide) rfl ?_
          refine J_iload_n (j := 0) hC dX3_changes_69 rfl ?_
          refine J_iload_n (j := 4) hC dX3_changes_70 rfl ?_
          have hj : ∀ (z6 : Int32), z6 = (if x2 = 0 then (if v3 = 0 then (if x4 = 0 then 1 else 0) else 0) else 0) → J C 0 0 M 89 [(3, .int (x3 + (if x2 = 0 then 0 else (if v3 = 0 then 0 else (if x4 = 0 then 0 else (if v3 = x4 then 0 else 1)))))), (6, .int v3), (0, rf x0), (1, .int x1), (2, .int x2), (4, .int x4), (5, .int x5)] [.int z6, .int (x3 + (if x2 = 0 then 0 else (if v3 = 0 then 0 else (if x4 = 0 then 0 else (if v3 = x4 then 0 else 1)))))] := by
            intro z6 ez6
            subst ez6
            refine J_iadd hC dX3_changes_89 ?_
            refine J_istore_n (i := 3) (lv' := [(3, .int ((x3 + (if x2 = 0 then 0 else (if v3 = 0 then 0 else (if x4 = 0 then 0 else (if v3 = x4 then 0 else 1))))) + (if x2 = 0 then (if v3 = 0 then (if x4 = 0 then 1 else 0) else 0) else 0))), (6, .int v3), (0, rf x0), (1, .int x1), (2, .int x2), (4, .int x4), (5, .int x5)]) rfl hC dX3_changes_90 (by decide) rfl ?_
            refine J_iload (j := 1) hC dX3_changes_91 rfl ?_
            have hj : ∀ (z4 : Int32), z4 = (if v3 = 0 then x4 else v3) → J C 0 0 M 103 [(3, .int ((x3 + (if x2 = 0 then 0 else (if v3 = 0 then 0 else (if x4 = 0 then 0 else (if v3 = x4 then 0 else 1))))) + (if x2 = 0 then (if v3 = 0 then (if x4 = 0 then 1 else 0) else 0) else 0))), (6, .int v3), (0, rf x0), (1, .int x1), (2, .int x2), (4, .int x4), (5, .int x5)] [.int z4] := by
              intro z4 ez4
              subst ez4
              refine J_istore (lv' := [(4, .int (if v3 = 0 then x4 else v3)), (3, .int ((x3 + (if x2 = 0 then 0 else (if v3 = 0 then 0 else (if x4 = 0 then 0 else (if v3 = x4 then 0 else 1))))) + (if x2 = 0 then (if v3 = 0 then (if x4 = 0 then 1 else 0) else 0) else 0))), (6, .int v3), (0, rf x0), (1, .int x1), (2, .int x2), (5, .int x5)]) hC dX3_changes_103 (by decide) rfl ?_
              refine J_inc (j := 6) (k := 1) (lv' := [(5, .int (x5 + 1)), (4, .int (if v3 = 0 then x4 else v3)), (3, .int ((x3 + (if x2 = 0 then 0 else (if v3 = 0 then 0 else (if x4 = 0 then 0 else (if v3 = x4 then 0 else 1))))) + (if x2 = 0 then (if v3 = 0 then (if x4 = 0 then 1 else 0) else 0) else 0))), (6, .int v3), (0, rf x0), (1, .int x1), (2, .int x2)]) hC dX3_changes_105 (by decide) rfl (by decide) rfl ?_
              refine J_goto (tgt := 8) hC dX3_changes_108 (by decide) ?_
              refine J_sub [4, 5, 6, 2, 1, 0] rfl ?_
              exact ih ((x3 + (if x2 = 0 then 0 else (if v3 = 0 then 0 else (if x4 = 0 then 0 else (if v3 = x4 then 0 else 1))))) + (if x2 = 0 then (if v3 = 0 then (if x4 = 0 then 1 else 0) else 0) else 0)) (if v3 = 0 then x4 else v3) (x5 + 1) h
            refine J_if_ne (tgt := 101) hC dX3_changes_93 (by decide) (fun c5 => ?_) (fun c5 => ?_)
            · refine J_iload (j := 1) hC dX3_changes_101 rfl ?_
              refine J_sub [0, 1, 2, 3, 4, 5, 6] rfl ?_
              exact hj _ (if_neg c5).symm
            · refine J_iload (j := 5) hC dX3_changes_96 rfl ?_
              refine J_goto (tgt := 103) hC dX3_changes_98 (by decide) ?_
              refine J_sub [0, 1, 2, 3, 4, 5, 6] rfl ?_
              exact hj _ (if_pos c5).symm
          refine J_if_ne (tgt := 88) hC dX3_changes_71 (by decide) (fun c7 => ?_) (fun c7 => ?_)
          · refine J_iconst (v := 0) hC dX3_changes_88 (by decide) ?_
            refine J_sub [0, 1, 2, 3, 4, 5, 6] rfl ?_
            exact hj _ (if_neg c7).symm
          · refine J_iload (j := 1) hC dX3_changes_74 rfl ?_
            refine J_if_ne (tgt := 88) hC dX3_changes_76 (by decide) (fun c8 => ?_) (fun c8 => ?_)
            · refine J_iconst (v := 0) hC dX3_changes_88 (by decide) ?_
              refine J_sub [0, 1, 2, 3, 4, 5, 6] rfl ?_
              exact hj _ ((if_pos c7).trans (if_neg c8)).symm
            · refine J_iload (j := 5) hC dX3_changes_79 rfl ?_
              refine J_if_ne (tgt := 88) hC dX3_changes_81 (by decide) (fun c9 => ?_) (fun c9 => ?_)
              · refine J_iconst (v := 0) hC dX3_changes_88 (by decide) ?_
                refine J_sub [0, 1, 2, 3, 4, 5, 6] rfl ?_
                exact hj _ (((if_pos c7).trans (if_pos c8)).trans (if_neg c9)).symm
              · refine J_iconst (v := 1) hC dX3_changes_84 (by decide) ?_
                refine J_goto (tgt := 89) hC dX3_changes_85 (by decide) ?_
                refine J_sub [0, 1, 2, 3, 4, 5, 6] rfl ?_
                exact hj _ (((if_pos c7).trans (if_pos c8)).trans (if_pos c9)).symm
        refine J_if_eq (tgt := 66) hC dX3_changes_42 (by decide) (fun c11 => ?_) (fun c11 => ?_)
        · refine J_iconst (v := 0) hC dX3_changes_66 (by decide) ?_
          refine J_sub [0, 1, 2, 3, 4, 5, 6] rfl ?_
          exact hj _ (if_pos c11).symm
        · refine J_iload (j := 0) hC dX3_changes_45 rfl ?_
          refine J_if_eq (tgt := 66) hC dX3_changes_47 (by decide) (fun c12 => ?_) (fun c12 => ?_)
          · refine J_iconst (v := 0) hC dX3_changes_66 (by decide) ?_
            refine J_sub [0, 1, 2, 3, 4, 5, 6] rfl ?_
            exact hj _ ((if_neg c11).trans (if_pos c12)).symm
          · refine J_iload (j := 5) hC dX3_changes_50 rfl ?_
            refine J_if_eq (tgt := 66) hC dX3_changes_52 (by decide) (fun c13 => ?_) (fun c13 => ?_)
            · refine J_iconst (v := 0) hC dX3_changes_66 (by decide) ?_
              refine J_sub [0, 1, 2, 3, 4, 5, 6] rfl ?_
              exact hj _ (((if_neg c11).trans (if_neg c12)).trans (if_pos c13)).symm
            · refine J_iload (j := 0) hC dX3_changes_55 rfl ?_
              refine J_iload (j := 5) hC dX3_changes_57 rfl ?_
              refine J_icmp_eq (tgt := 66) hC dX3_changes_59 (by decide) (fun c14 => ?_) (fun c14 => ?_)
              · refine J_iconst (v := 0) hC dX3_changes_66 (by decide) ?_
                refine J_sub [0, 1, 2, 3, 4, 5, 6] rfl ?_
                exact hj _ ((((if_neg c11).trans (if_neg c12)).trans (if_neg c13)).trans (if_pos c14)).symm
              · refine J_iconst (v := 1) hC dX3_changes_62 (by decide) ?_
                refine J_goto (tgt := 67) hC dX3_changes_63 (by decide) ?_
                refine J_sub [0, 1, 2, 3, 4, 5, 6] rfl ?_
                exact hj _ ((((if_neg c11).trans (if_neg c12)).trans (if_neg c13)).trans (if_neg c14)).symm
      · have h := ite_f c2 h
        refine J_iload (j := 5) hC dX3_changes_18 rfl ?_
        refine J_iconst (v := 2) hC dX3_changes_20 (by decide) ?_
        refine J_irem hC dX3_changes_21 (by decide) ?_
        refine J_iconst (v := 1) hC dX3_changes_22 (by decide) ?_
        refine J_icmp_ne (tgt := 34) hC dX3_changes_23 (by decide) (fun c15 => ?_) (fun c15 => ?_)
        · have h := ite_f c15 h
          refine J_aload_n (j := 0) hC dX3_changes_34 rfl ?_
          refine J_iload (j := 5) hC dX3_changes_35 rfl ?_
          refine J_iald hC dX3_changes_37 h (fun v28 _ h => ?_)
          refine J_istore (lv' := [(6, .int v28), (0, rf x0), (1, .int x1), (2, .int x2), (3, .int x3), (4, .int x4), (5, .int x5)]) hC dX3_changes_38 (by decide) rfl ?_
          refine J_iload_n (j := 4) hC dX3_changes_40 rfl ?_
          refine J_iload_n (j := 3) hC dX3_changes_41 rfl ?_
          have hj : ∀ (z35 : Int32), z35 = (if x2 = 0 then 0 else (if v28 = 0 then 0 else (if x4 = 0 then 0 else (if v28 = x4 then 0 else 1)))) → J C 0 0 M 67 [(6, .int v28), (0, rf x0), (1, .int x1), (2, .int x2), (3, .int x3), (4, .int x4), (5, .int x5)] [.int z35, .int x3] := by
            intro z35 ez35
            subst ez35
            refine J_iadd hC dX3_changes_67 ?_
            refine J_istore_n (i := 3) (lv' := [(3, .int (x3 + (if x2 = 0 then 0 else (if v28 = 0 then 0 else (if x4 = 0 then 0 else (if v28 = x4 then 0 else 1)))))), (6, .int v28), (0, rf x0), (1, .int x1), (2, .int x2), (4, .int x4), (5, .int x5)]) rfl hC dX3_changes_68 (by decide) rfl ?_
            refine J_iload_n (j := 0) hC dX3_changes_69 rfl ?_
            refine J_iload_n (j := 4) hC dX3_changes_70 rfl ?_
            have hj : ∀ (z31 : Int32), z31 = (if x2 = 0 then (if v28 = 0 then (if x4 = 0 then 1 else 0) else 0) else 0) → J C 0 0 M 89 [(3, .int (x3 + (if x2 = 0 then 0 else (if v28 = 0 then 0 else (if x4 = 0 then 0 else (if v28 = x4 then 0 else 1)))))), (6, .int v28), (0, rf x0), (1, .int x1), (2, .int x2), (4, .int x4), (5, .int x5)] [.int z31, .int (x3 + (if x2 = 0 then 0 else (if v28 = 0 then 0 else (if x4 = 0 then 0 else (if v28 = x4 then 0 else 1)))))] := by
              intro z31 ez31
              subst ez31
              refine J_iadd hC dX3_changes_89 ?_
              refine J_istore_n (i := 3) (lv' := [(3, .int ((x3 + (if x2 = 0 then 0 else (if v28 = 0 then 0 else (if x4 = 0 then 0 else (if v28 = x4 then 0 else 1))))) + (if x2 = 0 then (if v28 = 0 then (if x4 = 0 then 1 else 0) else 0) else 0))), (6, .int v28), (0, rf x0), (1, .int x1), (2, .int x2), (4, .int x4), (5, .int x5)]) rfl hC dX3_changes_90 (by decide) rfl ?_
              refine J_iload (j := 1) hC dX3_changes_91 rfl ?_
              have hj : ∀ (z29 : Int32), z29 = (if v28 = 0 then x4 else v28) → J C 0 0 M 103 [(3, .int ((x3 + (if x2 = 0 then 0 else (if v28 = 0 then 0 else (if x4 = 0 then 0 else (if v28 = x4 then 0 else 1))))) + (if x2 = 0 then (if v28 = 0 then (if x4 = 0 then 1 else 0) else 0) else 0))), (6, .int v28), (0, rf x0), (1, .int x1), (2, .int x2), (4, .int x4), (5, .int x5)] [.int z29] := by
                intro z29 ez29
                subst ez29
                refine J_istore (lv' := [(4, .int (if v28 = 0 then x4 else v28)), (3, .int ((x3 + (if x2 = 0 then 0 else (if v28 = 0 then 0 else (if x4 = 0 then 0 else (if v28 = x4 then 0 else 1))))) + (if x2 = 0 then (if v28 = 0 then (if x4 = 0 then 1 else 0) else 0) else 0))), (6, .int v28), (0, rf x0), (1, .int x1), (2, .int x2), (5, .int x5)]) hC dX3_changes_103 (by decide) rfl ?_
                refine J_inc (j := 6) (k := 1) (lv' := [(5, .int (x5 + 1)), (4, .int (if v28 = 0 then x4 else v28)), (3, .int ((x3 + (if x2 = 0 then 0 else (if v28 = 0 then 0 else (if x4 = 0 then 0 else (if v28 = x4 then 0 else 1))))) + (if x2 = 0 then (if v28 = 0 then (if x4 = 0 then 1 else 0) else 0) else 0))), (6, .int v28), (0, rf x0), (1, .int x1), (2, .int x2)]) hC dX3_changes_105 (by decide) rfl (by decide) rfl ?_
                refine J_goto (tgt := 8) hC dX3_changes_108 (by decide) ?_
                refine J_sub [4, 5, 6, 2, 1, 0] rfl ?_
                exact ih ((x3 + (if x2 = 0 then 0 else (if v28 = 0 then 0 else (if x4 = 0 then 0 else (if v28 = x4 then 0 else 1))))) + (if x2 = 0 then (if v28 = 0 then (if x4 = 0 then 1 else 0) else 0) else 0)) (if v28 = 0 then x4 else v28) (x5 + 1) h
              refine J_if_ne (tgt := 101) hC dX3_changes_93 (by decide) (fun c30 => ?_) (fun c30 => ?_)
              · refine J_iload (j := 1) hC dX3_changes_101 rfl ?_
                refine J_sub [0, 1, 2, 3, 4, 5, 6] rfl ?_
                exact hj _ (if_neg c30).symm
              · refine J_iload (j := 5) hC dX3_changes_96 rfl ?_
                refine J_goto (tgt := 103) hC dX3_changes_98 (by decide) ?_
                refine J_sub [0, 1, 2, 3, 4, 5, 6] rfl ?_
                exact hj _ (if_pos c30).symm
            refine J_if_ne (tgt := 88) hC dX3_changes_71 (by decide) (fun c32 => ?_) (fun c32 => ?_)
            · refine J_iconst (v := 0) hC dX3_changes_88 (by decide) ?_
              refine J_sub [0, 1, 2, 3, 4, 5, 6] rfl ?_
              exact hj _ (if_neg c32).symm
            · refine J_iload (j := 1) hC dX3_changes_74 rfl ?_
              refine J_if_ne (tgt := 88) hC dX3_changes_76 (by decide) (fun c33 => ?_) (fun c33 => ?_)
              · refine J_iconst (v := 0) hC dX3_changes_88 (by decide) ?_
                refine J_sub [0, 1, 2, 3, 4, 5, 6] rfl ?_
                exact hj _ ((if_pos c32).trans (if_neg c33)).symm
              · refine J_iload (j := 5) hC dX3_changes_79 rfl ?_
                refine J_if_ne (tgt := 88) hC dX3_changes_81 (by decide) (fun c34 => ?_) (fun c34 => ?_)
                · refine J_iconst (v := 0) hC dX3_changes_88 (by decide) ?_
                  refine J_sub [0, 1, 2, 3, 4, 5, 6] rfl ?_
                  exact hj _ (((if_pos c32).trans (if_pos c33)).trans (if_neg c34)).symm
                · refine J_iconst (v := 1) hC dX3_changes_84 (by decide) ?_
                  refine J_goto (tgt := 89) hC dX3_changes_85 (by decide) ?_
                  refine J_sub [0, 1, 2, 3, 4, 5, 6] rfl ?_
                  exact hj _ (((if_pos c32).trans (if_pos c33)).trans (if_pos c34)).symm
          refine J_if_eq (tgt := 66) hC dX3_changes_42 (by decide) (fun c36 => ?_) (fun c36 => ?_)
          · refine J_iconst (v := 0) hC dX3_changes_66 (by decide) ?_
            refine J_sub [0, 1, 2, 3, 4, 5, 6] rfl ?_
            exact hj _ (if_pos c36).symm
          · refine J_iload (j := 0) hC dX3_changes_45 rfl ?_
            refine J_if_eq (tgt := 66) hC dX3_changes_47 (by decide) (fun c37 => ?_) (fun c37 => ?_)
            · refine J_iconst (v := 0) hC dX3_changes_66 (by decide) ?_
              refine J_sub [0, 1, 2, 3, 4, 5, 6] rfl ?_
              exact hj _ ((if_neg c36).trans (if_pos c37)).symm
            · refine J_iload (j := 5) hC dX3_changes_50 rfl ?_
              refine J_if_eq (tgt := 66) hC dX3_changes_52 (by decide) (fun c38 => ?_) (fun c38 => ?_)
              · refine J_iconst (v := 0) hC dX3_changes_66 (by decide) ?_
                refine J_sub [0, 1, 2, 3, 4, 5, 6] rfl ?_
                exact hj _ (((if_neg c36).trans (if_neg c37)).trans (if_pos c38)).symm
              · refine J_iload (j := 0) hC dX3_changes_55 rfl ?_
                refine J_iload (j := 5) hC dX3_changes_57 rfl ?_
                refine J_icmp_eq (tgt := 66) hC dX3_changes_59 (by decide) (fun c39 => ?_) (fun c39 => ?_)
                · refine J_iconst (v := 0) hC dX3_changes_66 (by decide) ?_
                  refine J_sub [0, 1, 2, 3, 4, 5, 6] rfl ?_
                  exact hj _ ((((if_neg c36).trans (if_neg c37)).trans (if_neg c38)).trans (if_pos c39)).symm
                · refine J_iconst (v := 1) hC dX3_changes_62 (by decide) ?_
                  refine J_goto (tgt := 67) hC dX3_changes_63 (by decide) ?_
                  refine J_sub [0, 1, 2, 3, 4, 5, 6] rfl ?_
                  exact hj _ ((((if_neg c36).trans (if_neg c37)).trans (if_neg c38)).trans (if_neg c39)).symm
        · have h := ite_t c15 h
          refine J_aload_n (j := 0) hC dX3_changes_26 rfl ?_
          refine J_iload (j := 5) hC dX3_changes_27 rfl ?_
          refine J_iald hC dX3_changes_29 h (fun v16 _ h => ?_)
          refine J_ineg hC dX3_changes_30 ?_
          refine J_goto (tgt := 38) hC dX3_changes_31 (by decide) ?_
          refine J_istore (lv' := [(6, .int (-v16)), (0, rf x0), (1, .int x1), (2, .int x2), (3, .int x3), (4, .int x4), (5, .int x5)]) hC dX3_changes_38 (by decide) rfl ?_
          refine J_iload_n (j := 4) hC dX3_changes_40 rfl ?_
          refine J_iload_n (j := 3) hC dX3_changes_41 rfl ?_
          have hj : ∀ (z23 : Int32), z23 = (if x2 = 0 then 0 else (if (-v16) = 0 then 0 else (if x4 = 0 then 0 else (if (-v16) = x4 then 0 else 1)))) → J C 0 0 M 67 [(6, .int (-v16)), (0, rf x0), (1, .int x1), (2, .int x2), (3, .int x3), (4, .int x4), (5, .int x5)] [.int z23, .int x3] := by
            intro z23 ez23
            subst ez23
            refine J_iadd hC dX3_changes_67 ?_
            refine J_istore_n (i := 3) (lv' := [(3, .int (x3 + (if x2 = 0 then 0 else (if (-v16) = 0 then 0 else (if x4 = 0 then 0 else (if (-v16) = x4 then 0 else 1)))))), (6, .int (-v16)), (0, rf x0), (1, .int x1), (2, .int x2), (4, .int x4), (5, .int x5)]) rfl hC dX3_changes_68 (by decide) rfl ?_
            refine J_iload_n (j := 0) hC dX3_changes_69 rfl ?_
            refine J_iload_n (j := 4) hC dX3_changes_70 rfl ?_
            have hj : ∀ (z19 : Int32), z19 = (if x2 = 0 then (if (-v16) = 0 then (if x4 = 0 then 1 else 0) else 0) else 0) → J C 0 0 M 89 [(3, .int (x3 + (if x2 = 0 then 0 else (if (-v16) = 0 then 0 else (if x4 = 0 then 0 else (if (-v16) = x4 then 0 else 1)))))), (6, .int (-v16)), (0, rf x0), (1, .int x1), (2, .int x2), (4, .int x4), (5, .int x5)] [.int z19, .int (x3 + (if x2 = 0 then 0 else (if (-v16) = 0 then 0 else (if x4 = 0 then 0 else (if (-v16) = x4 then 0 else 1)))))] := by
              intro z19 ez19
              subst ez19
              refine J_iadd hC dX3_changes_89 ?_
              refine J_istore_n (i := 3) (lv' := [(3, .int ((x3 + (if x2 = 0 then 0 else (if (-v16) = 0 then 0 else (if x4 = 0 then 0 else (if (-v16) = x4 then 0 else 1))))) + (if x2 = 0 then (if (-v16) = 0 then (if x4 = 0 then 1 else 0) else 0) else 0))), (6, .int (-v16)), (0, rf x0), (1, .int x1), (2, .int x2), (4, .int x4), (5, .int x5)]) rfl hC dX3_changes_90 (by decide) rfl ?_
              refine J_iload (j := 1) hC dX3_changes_91 rfl ?_
              have hj : ∀ (z17 : Int32), z17 = (if (-v16) = 0 then x4 else -v16) → J C 0 0 M 103 [(3, .int ((x3 + (if x2 = 0 then 0 else (if (-v16) = 0 then 0 else (if x4 = 0 then 0 else (if (-v16) = x4 then 0 else 1))))) + (if x2 = 0 then (if (-v16) = 0 then (if x4 = 0 then 1 else 0) else 0) else 0))), (6, .int (-v16)), (0, rf x0), (1, .int x1), (2, .int x2), (4, .int x4), (5, .int x5)] [.int z17] := by
                intro z17 ez17
                subst ez17
                refine J_istore (lv' := [(4, .int (if (-v16) = 0 then x4 else -v16)), (3, .int ((x3 + (if x2 = 0 then 0 else (if (-v16) = 0 then 0 else (if x4 = 0 then 0 else (if (-v16) = x4 then 0 else 1))))) + (if x2 = 0 then (if (-v16) = 0 then (if x4 = 0 then 1 else 0) else 0) else 0))), (6, .int (-v16)), (0, rf x0), (1, .int x1), (2, .int x2), (5, .int x5)]) hC dX3_changes_103 (by decide) rfl ?_
                refine J_inc (j := 6) (k := 1) (lv' := [(5, .int (x5 + 1)), (4, .int (if (-v16) = 0 then x4 else -v16)), (3, .int ((x3 + (if x2 = 0 then 0 else (if (-v16) = 0 then 0 else (if x4 = 0 then 0 else (if (-v16) = x4 then 0 else 1))))) + (if x2 = 0 then (if (-v16) = 0 then (if x4 = 0 then 1 else 0) else 0) else 0))), (6, .int (-v16)), (0, rf x0), (1, .int x1), (2, .int x2)]) hC dX3_changes_105 (by decide) rfl (by decide) rfl ?_
                refine J_goto (tgt := 8) hC dX3_changes_108 (by decide) ?_
                refine J_sub [4, 5, 6, 2, 1, 0] rfl ?_
                exact ih ((x3 + (if x2 = 0 then 0 else (if (-v16) = 0 then 0 else (if x4 = 0 then 0 else (if (-v16) = x4 then 0 else 1))))) + (if x2 = 0 then (if (-v16) = 0 then (if x4 = 0 then 1 else 0) else 0) else 0)) (if (-v16) = 0 then x4 else -v16) (x5 + 1) h
              refine J_if_ne (tgt := 101) hC dX3_changes_93 (by decide) (fun c18 => ?_) (fun c18 => ?_)
              · refine J_iload (j := 1) hC dX3_changes_101 rfl ?_
                refine J_sub [0, 1, 2, 3, 4, 5, 6] rfl ?_
                exact hj _ (if_neg c18).symm
              · refine J_iload (j := 5) hC dX3_changes_96 rfl ?_
                refine J_goto (tgt := 103) hC dX3_changes_98 (by decide) ?_
                refine J_sub [0, 1, 2, 3, 4, 5, 6] rfl ?_
                exact hj _ (if_pos c18).symm
            refine J_if_ne (tgt := 88) hC dX3_changes_71 (by decide) (fun c20 => ?_) (fun c20 => ?_)
            · refine J_iconst (v := 0) hC dX3_changes_88 (by decide) ?_
              refine J_sub [0, 1, 2, 3, 4, 5, 6] rfl ?_
              exact hj _ (if_neg c20).symm
            · refine J_iload (j := 1) hC dX3_changes_74 rfl ?_
              refine J_if_ne (tgt := 88) hC dX3_changes_76 (by decide) (fun c21 => ?_) (fun c21 => ?_)
              · refine J_iconst (v := 0) hC dX3_changes_88 (by decide) ?_
                refine J_sub [0, 1, 2, 3, 4, 5, 6] rfl ?_
                exact hj _ ((if_pos c20).trans (if_neg c21)).symm
              · refine J_iload (j := 5) hC dX3_changes_79 rfl ?_
                refine J_if_ne (tgt := 88) hC dX3_changes_81 (by decide) (fun c22 => ?_) (fun c22 => ?_)
                · refine J_iconst (v := 0) hC dX3_changes_88 (by decide) ?_
                  refine J_sub [0, 1, 2, 3, 4, 5, 6] rfl ?_
                  exact hj _ (((if_pos c20).trans (if_pos c21)).trans (if_neg c22)).symm
                · refine J_iconst (v := 1) hC dX3_changes_84 (by decide) ?_
                  refine J_goto (tgt := 89) hC dX3_changes_85 (by decide) ?_
                  refine J_sub [0, 1, 2, 3, 4, 5, 6] rfl ?_
                  exact hj _ (((if_pos c20).trans (if_pos c21)).trans (if_pos c22)).symm
          refine J_if_eq (tgt := 66) hC dX3_changes_42 (by decide) (fun c24 => ?_) (fun c24 => ?_)
          · refine J_iconst (v := 0) hC dX3_changes_66 (by decide) ?_
            refine J_sub [0, 1, 2, 3, 4, 5, 6] rfl ?_
            exact hj _ (if_pos c24).symm
          · refine J_iload (j := 0) hC dX3_changes_45 rfl ?_
            refine J_if_eq (tgt := 66) hC dX3_changes_47 (by decide) (fun c25 => ?_) (fun c25 => ?_)
            · refine J_iconst (v := 0) hC dX3_changes_66 (by decide) ?_
              refine J_sub [0, 1, 2, 3, 4, 5, 6] rfl ?_
              exact hj _ ((if_neg c24).trans (if_pos c25)).symm
            · refine J_iload (j := 5) hC dX3_changes_50 rfl ?_
              refine J_if_eq (tgt := 66) hC dX3_changes_52 (by decide) (fun c26 => ?_) (fun c26 => ?_)
              · refine J_iconst (v := 0) hC dX3_changes_66 (by decide) ?_
                refine J_sub [0, 1, 2, 3, 4, 5, 6] rfl ?_
                exact hj _ (((if_neg c24).trans (if_neg c25)).trans (if_pos c26)).symm
              · refine J_iload (j := 0) hC dX3_changes_55 rfl ?_
                refine J_iload (j := 5) hC dX3_changes_57 rfl ?_
                refine J_icmp_eq (tgt := 66) hC dX3_changes_59 (by decide) (fun c27 => ?_) (fun c27 => ?_)
                · refine J_iconst (v := 0) hC dX3_changes_66 (by decide) ?_
                  refine J_sub [0, 1, 2, 3, 4, 5, 6] rfl ?_
                  exact hj _ ((((if_neg c24).trans (if_neg c25)).trans (if_neg c26)).trans (if_pos c27)).symm
                · refine J_iconst (v := 1) hC dX3_changes_62 (by decide) ?_
                  refine J_goto (tgt := 67) hC dX3_changes_63 (by decide) ?_
                  refine J_sub [0, 1, 2, 3, 4, 5, 6] rfl ?_
                  exact hj _ ((((if_neg c24).trans (if_neg c25)).trans (if_neg c26)).trans (if_neg c27)).symm
set_option maxHeartbeats 4000000 in
set_option maxRecDepth 100000 in
theorem cX3_changes_ok (M : Mem) (a0 : Option Nat) (a1 : Int32) (a2 : Int32) (r0 : Int32) (h : fX3_changes M a0 a1 a2 = some r0) : ∀ l : Launch, l.stackTraces = false → Con false l yX3_changes cX3_changes 7 (some .int) rm_X3_changes [rf a0, .int a1, .int a2] M (M, Sum.inr (some (Value.int r0))) := by
  intro l hst
  refine Con.enter hst (own := RX3) (by decide +kernel) rfl (by exact Nat.le_of_ble_eq_true rfl) (lv0 := [(0, rf a0), (1, .int a1), (2, .int a2)]) (rfl) (fun C hC hin => ?_)
  unfold fX3_changes at h
  refine J_iconst (v := 0) hC dX3_changes_0 (by decide) ?_
  refine J_istore_n (i := 3) (lv' := [(3, .int 0), (0, rf a0), (1, .int a1), (2, .int a2)]) rfl hC dX3_changes_1 (by decide) rfl ?_
  refine J_iconst (v := 0) hC dX3_changes_2 (by decide) ?_
  refine J_istore (lv' := [(4, .int 0), (3, .int 0), (0, rf a0), (1, .int a1), (2, .int a2)]) hC dX3_changes_3 (by decide) rfl ?_
  refine J_iconst (v := 0) hC dX3_changes_5 (by decide) ?_
  refine J_istore (lv' := [(5, .int 0), (4, .int 0), (3, .int 0), (0, rf a0), (1, .int a1), (2, .int a2)]) hC dX3_changes_6 (by decide) rfl ?_
  refine J_sub [3, 4, 5, 2, 1, 0] rfl ?_
  refine tX3_changes_8 M a0 a1 a2 hC _ (fun x40 x41 x42 h => ?_) FU 0 0 0 h
  · refine J_iload_n (j := 3) hC dX3_changes_111 rfl ?_
    exact J_iret hC dX3_changes_112 (by have h9 := Option.some.inj h; subst h9; rfl) (Nat.le_of_ble_eq_true rfl) (Nat.le_of_ble_eq_true rfl)
abbrev rm_X3_often : Room := { frames := 2, cells := 0, slots := 0, locals := 45 }

set_option maxHeartbeats 4000000 in
set_option maxRecDepth 100000 in
theorem tX3_often_2 {C : JC} {r0 : Mem × Int32} (x0 : Option Nat) (x1 : Int32) (x2 : Int32) (hC : Ok C false cX3_often 4 rm_X3_often (some .int) RX3 (r0.1, Sum.inr (some (Value.int r0.2))))  (k26 : Mem → Int32 → Option (Mem × Int32)) (hk26 : ∀ (M : Mem) (x3 : Int32), k26 M x3 = some r0 → J C 0 0 M 26 [(0, rf x0), (1, .int x1), (2, .int x2), (3, .int x3)] []) : ∀ (n : Nat) (M : Mem) (x3 : Int32), fX3_often_2 x0 x1 x2 k26 n M x3 = some r0 → J C 0 0 M 2 [(0, rf x0), (1, .int x1), (2, .int x2), (3, .int x3)] [] := by
  intro n
  induction n with
  | zero => intro M x3 h; have h : none = some r0 := h; cases h
  | succ n ih =>
    intro M x3 h
    rw [fX3_often_2] at h
    refine J_iload_n (j := 3) hC dX3_often_2 rfl ?_
    refine J_bipush (v := 9) hC dX3_often_3 (by decide) ?_
    refine J_icmp_ge (tgt := 26) hC dX3_often_5 (by decide) (fun c1 => ?_) (fun c1 => ?_)
    · have h := ite_t c1 h
      refine J_sub [0, 1, 2, 3] rfl ?_
      exact hk26 M x3 h
    · have h := ite_f c1 h
      refine J_aload_n (j := 0) hC dX3_often_8 rfl ?_
      refine J_g3_8 hC k_X3_26 dX3_often_9 h (fun v2 _ h => ?_)
      refine J_iload_n (j := 3) hC dX3_often_12 rfl ?_
      refine J_aload_n (j := 0) hC dX3_often_13 rfl ?_
      refine J_iload_n (j := 1) hC dX3_often_14 rfl ?_
      refine J_iload_n (j := 3) hC dX3_often_15 rfl ?_
      refine ck_c h (fun ho h => ?_)
      refine bnd_c h (fun w3 hw h => ?_)
      refine J_callV (As := [.int x1, .int x3]) (M' := M) (rv := some (Value.int w3)) (st := [.int x3, rf v2]) hC (fun l hl => cX3_signAt_ok M x0 x1 x3 _ hw l hl) vm_X3_signAt k_X3_44 ho ⟨rfl, rfl⟩ rfl ⟨Nat.le_of_ble_eq_true rfl, Nat.le_of_ble_eq_true rfl⟩ (Nat.le_of_ble_eq_true rfl) ⟨Nat.le_of_ble_eq_true rfl, Nat.le_of_ble_eq_true rfl⟩ dX3_often_16 rfl ?_
      refine J_iast hC dX3_often_19 h (fun M4 _ h => ?_)
      refine J_inc (j := 3) (k := 1) (lv' := [(3, .int (x3 + 1)), (0, rf x0), (1, .int x1), (2, .int x2)]) hC dX3_often_20 (by decide) rfl (by decide) rfl ?_
      refine J_goto (tgt := 2) hC dX3_often_23 (by decide) ?_
      refine J_sub [1, 2, 3, 0] rfl ?_
      exact ih M4 (x3 + 1) h
set_option maxHeartbeats 4000000 in
set_option maxRecDepth 100000 in
theorem cX3_often_ok (M : Mem) (a0 : Option Nat) (a1 : Int32) (a2 : Int32) (r0 : Mem × Int32) (h : fX3_often M a0 a1 a2 = some r0) : ∀ l : Launch, l.stackTraces = false → Con false l yX3_often cX3_often 4 (some .int) rm_X3_often [rf a0, .int a1, .int a2] M (r0.1, Sum.inr (some (Value.int r0.2))) := by
  intro l hst
  refine Con.enter hst (own := RX3) (by decide +kernel) rfl (by exact Nat.le_of_ble_eq_true rfl) (lv0 := [(0, rf a0), (1, .int a1), (2, .int a2)]) (rfl) (fun C hC hin => ?_)
  unfold fX3_often at h
  refine J_iconst (v := 0) hC dX3_often_0 (by decide) ?_
  refine J_istore_n (i := 3) (lv' := [(3, .int 0), (0, rf a0), (1, .int a1), (2, .int a2)]) rfl hC dX3_often_1 (by decide) rfl ?_
  refine J_sub [1, 2, 3, 0] rfl ?_
  refine tX3_often_2 a0 a1 a2 hC _ (fun M5 x6 h => ?_) FU M 0 h
  · refine J_aload_n (j := 0) hC dX3_often_26 rfl ?_
    refine J_g3_8 hC k_X3_26 dX3_often_27 h (fun v7 _ h => ?_)
    refine J_aload_n (j := 0) hC dX3_often_30 rfl ?_
    refine J_iload_n (j := 1) hC dX3_often_31 rfl ?_
    refine ck_c h (fun ho h => ?_)
    refine bnd_c h (fun w8 hw h => ?_)
    refine J_callV (As := [.int a1]) (M' := M5) (rv := some (Value.int w8)) (st := [rf v7]) hC (fun l hl => cX3_degree_ok M5 a0 a1 _ hw l hl) vm_X3_degree k_X3_51 ho ⟨rfl, rfl⟩ rfl ⟨Nat.le_of_ble_eq_true rfl, Nat.le_of_ble_eq_true rfl⟩ (Nat.le_of_ble_eq_true rfl) ⟨Nat.le_of_ble_eq_true rfl, Nat.le_of_ble_eq_true rfl⟩ dX3_often_32 rfl ?_
    refine J_iload_n (j := 2) hC dX3_often_35 rfl ?_
    refine bnd_c h (fun w9 hw h => ?_)
    refine J_callS (As := [rf v7, .int w8, .int a2]) (M' := M5) (rv := some (Value.int w9)) (st := []) hC (fun l hl => cX3_changes_ok M5 v7 w8 a2 _ hw l hl) sm_X3_changes k_X3_55 rfl ⟨Nat.le_of_ble_eq_true rfl, Nat.le_of_ble_eq_true rfl⟩ (Nat.zero_le _) ⟨Nat.le_of_ble_eq_true rfl, Nat.le_of_ble_eq_true rfl⟩ dX3_often_36 rfl ?_
    exact J_iret hC dX3_often_39 (by have h9 := Option.some.inj h; subst h9; rfl) (Nat.le_of_ble_eq_true rfl) (Nat.le_of_ble_eq_true rfl)
abbrev rm_X3_laysRow : Room := { frames := 0, cells := 0, slots := 0, locals := 0 }

set_option maxHeartbeats 4000000 in
set_option maxRecDepth 100000 in
theorem tX3_laysRow_5 {C : JC} {r0 : Mem} (x0 : Option Nat) (x1 : Int32) (x2 : Int32) (hC : Ok C false cX3_laysRow 5 rm_X3_laysRow none RX3 (r0, Sum.inr none))  (k32 : Mem → Int32 → Int32 → Option (Mem)) (hk32 : ∀ (M : Mem) (x3 : Int32) (x4 : Int32), k32 M x3 x4 = some r0 → J C 0 0 M 32 [(0, rf x0), (1, .int x1), (2, .int x2), (3, .int x3), (4, .int x4)] []) : ∀ (n : Nat) (M : Mem) (x3 : Int32) (x4 : Int32), fX3_laysRow_5 x0 x1 x2 k32 n M x3 x4 = some r0 → J C 0 0 M 5 [(0, rf x0), (1, .int x1), (2, .int x2), (3, .int x3), (4, .int x4)] [] := by
  intro n
  induction n with
  | zero => intro M x3 x4 h; have h : none = some r0 := h; cases h
  | succ n ih =>
    intro M x3 x4 h
    rw [fX3_laysRow_5] at h
    refine J_iload (j := 4) hC dX3_laysRow_5 rfl ?_
    refine J_if_lt (tgt := 32) hC dX3_laysRow_7 (by decide) (fun c1 => ?_) (fun c1 => ?_)
    · have h := ite_t c1 h
      refine J_sub [0, 1, 2, 3, 4] rfl ?_
      exact hk32 M x3 x4 h
    · have h := ite_f c1 h
      refine J_aload_n (j := 0) hC dX3_laysRow_10 rfl ?_
      refine J_g3_8 hC k_X3_26 dX3_laysRow_11 h (fun v2 _ h => ?_)
      refine J_iload (j := 4) hC dX3_laysRow_14 rfl ?_
      refine J_iload_n (j := 3) hC dX3_laysRow_16 rfl ?_
      refine J_iconst (v := 3) hC dX3_laysRow_17 (by decide) ?_
      refine J_irem hC dX3_laysRow_18 (by decide) ?_
      refine J_iconst (v := 1) hC dX3_laysRow_19 (by decide) ?_
      refine J_isub hC dX3_laysRow_20 ?_
      refine J_iast hC dX3_laysRow_21 h (fun M3 _ h => ?_)
      refine J_iload_n (j := 3) hC dX3_laysRow_22 rfl ?_
      refine J_iconst (v := 3) hC dX3_laysRow_23 (by decide) ?_
      refine J_idiv hC dX3_laysRow_24 (by decide) ?_
      refine J_istore_n (i := 3) (lv' := [(3, .int (x3 / 3)), (0, rf x0), (1, .int x1), (2, .int x2), (4, .int x4)]) rfl hC dX3_laysRow_25 (by decide) rfl ?_
      refine J_inc (j := 4) (k := (-1)) (lv' := [(4, .int (x4 + (-1))), (3, .int (x3 / 3)), (0, rf x0), (1, .int x1), (2, .int x2)]) hC dX3_laysRow_26 (by decide) rfl (by decide) rfl ?_
      refine J_goto (tgt := 5) hC dX3_laysRow_29 (by decide) ?_
      refine J_sub [2, 3, 4, 1, 0] rfl ?_
      exact ih M3 (x3 / 3) (x4 + (-1)) h
set_option maxHeartbeats 4000000 in
set_option maxRecDepth 100000 in
theorem cX3_laysRow_ok (M : Mem) (a0 : Option Nat) (a1 : Int32) (a2 : Int32) (r0 : Mem) (h : fX3_laysRow M a0 a1 a2 = some r0) : ∀ l : Launch, l.stackTraces = false → Con false l yX3_laysRow cX3_laysRow 5 none rm_X3_laysRow [rf a0, .int a1, .int a2] M (r0, Sum.inr none) := by
  intro l hst
  refine Con.enter hst (own := RX3) (by decide +kernel) rfl (by exact Nat.le_of_ble_eq_true rfl) (lv0 := [(0, rf a0), (1, .int a1), (2, .int a2)]) (rfl) (fun C hC hin => ?_)
  unfold fX3_laysRow at h
  refine J_iload_n (j := 1) hC dX3_laysRow_0 rfl ?_
  refine J_istore_n (i := 3) (lv' := [(3, .int a1), (0, rf a0), (1, .int a1), (2, .int a2)]) rfl hC dX3_laysRow_1 (by decide) rfl ?_
  refine J_iload_n (j := 3) hC dX3_laysRow_2 rfl ?_
  refine J_istore (lv' := [(4, .int a2), (3, .int a1), (0, rf a0), (1, .int a1), (2, .int a2)]) hC dX3_laysRow_3 (by decide) rfl ?_
  refine J_sub [2, 3, 4, 1, 0] rfl ?_
  refine tX3_laysRow_5 a0 a1 a2 hC _ (fun M4 x5 x6 h => ?_) FU M a1 a2 h
  · exact J_vret hC dX3_laysRow_32 (by have h9 := Option.some.inj h; subst h9; rfl) (Nat.le_of_ble_eq_true rfl) (Nat.le_of_ble_eq_true rfl)
abbrev rm_X3_isQuotient : Room := { frames := 1, cells := 0, slots := 0, locals := 22 }

set_option maxHeartbeats 4000000 in
set_option maxRecDepth 100000 in
theorem tX3_isQuotient_19 {C : JC} {r0 : Int32} (M : Mem) (x0 : Option Nat) (x1 : Int32) (x2 : Int32) (x3 : Int32) (hC : Ok C false cX3_isQuotient 8 rm_X3_isQuotient (some .boolean) RX3 (M, Sum.inr (some (Value.int r0))))  (k96 : Int32 → Int32 → Option (Int32)) (hk96 : ∀ (x4 : Int32) (x5 : Int32), k96 x4 x5 = some r0 → J C 0 0 M 96 [(0, rf x0), (1, .int x1), (2, .int x2), (3, .int x3), (4, .int x4), (5, .int x5)] []) : ∀ (n : Nat) (x4 : Int32) (x5 : Int32), fX3_isQuotient_19 M x0 x1 x2 x3 k96 n x4 x5 = some r0 → J C 0 0 M 19 [(0, rf x0), (1, .int x1), (2, .int x2), (3, .int x3), (4, .int x4), (5, .int x5)] [] := by
  intro n
  induction n with
  | zero => intro x4 x5 h; have h : none = some r0 := h; cases h
  | succ n ih =>
    intro x4 x5 h
    rw [fX3_isQuotient_19] at h
    refine J_iload (j := 5) hC dX3_isQuotient_19 rfl ?_
    refine J_iload_n (j := 3) hC dX3_isQuotient_21 rfl ?_
    refine J_iconst (v := 1) hC dX3_isQuotient_22 (by decide) ?_
    refine J_iadd hC dX3_isQuotient_23 ?_
    refine J_icmp_gt (tgt := 96) hC dX3_isQuotient_24 (by decide) (fun c3 => ?_) (fun c3 => ?_)
    · have h := ite_t c3 h
      refine J_sub [0, 1, 2, 3, 4, 5] rfl ?_
      exact hk96 x4 x5 h
    · have h := ite_f c3 h
      refine J_iload (j := 4) hC dX3_isQuotient_27 rfl ?_
      refine J_if_eq (tgt := 96) hC dX3_isQuotient_29 (by decide) (fun c4 => ?_) (fun c4 => ?_)
      · have h := ite_t c4 h
        refine J_sub [0, 1, 2, 3, 4, 5] rfl ?_
        exact hk96 x4 x5 h
      · have h := ite_f c4 h
        refine J_iload (j := 5) hC dX3_isQuotient_32 rfl ?_
        refine J_if_ne (tgt := 41) hC dX3_isQuotient_34 (by decide) (fun c5 => ?_) (fun c5 => ?_)
        · have h := ite_f c5 h
          refine J_aload_n (j := 0) hC dX3_isQuotient_41 rfl ?_
          refine J_g3_8 hC k_X3_26 dX3_isQuotient_42 h (fun v13 _ h => ?_)
          refine J_iload (j := 5) hC dX3_isQuotient_45 rfl ?_
          refine J_iconst (v := 1) hC dX3_isQuotient_47 (by decide) ?_
          refine J_isub hC dX3_isQuotient_48 ?_
          refine J_iald hC dX3_isQuotient_49 h (fun v14 _ h => ?_)
          refine J_istore (lv' := [(6, .int v14), (0, rf x0), (1, .int x1), (2, .int x2), (3, .int x3), (4, .int x4), (5, .int x5)]) hC dX3_isQuotient_50 (by decide) rfl ?_
          refine J_iload (j := 6) hC dX3_isQuotient_52 rfl ?_
          refine J_iload_n (j := 4) hC dX3_isQuotient_54 rfl ?_
          refine J_icmp_le (tgt := 62) hC dX3_isQuotient_55 (by decide) (fun c15 => ?_) (fun c15 => ?_)
          · have h := ite_t c15 h
            refine J_iload_n (j := 3) hC dX3_isQuotient_62 rfl ?_
            refine J_ineg hC dX3_isQuotient_63 ?_
            refine J_aload_n (j := 1) hC dX3_isQuotient_64 rfl ?_
            refine J_g3_8 hC k_X3_26 dX3_isQuotient_65 h (fun v16 _ h => ?_)
            refine J_iload (j := 6) hC dX3_isQuotient_68 rfl ?_
            refine J_iald hC dX3_isQuotient_70 h (fun v17 _ h => ?_)
            refine J_imul hC dX3_isQuotient_71 ?_
            refine J_istore (lv' := [(7, .int ((-x2) * v17)), (6, .int v14), (0, rf x0), (1, .int x1), (2, .int x2), (3, .int x3), (4, .int x4), (5, .int x5)]) hC dX3_isQuotient_72 (by decide) rfl ?_
            refine J_aload_n (j := 2) hC dX3_isQuotient_74 rfl ?_
            refine J_iload_n (j := 3) hC dX3_isQuotient_75 rfl ?_
            refine J_iload (j := 7) hC dX3_isQuotient_76 rfl ?_
            refine ck_c h (fun ho h => ?_)
            refine bnd_c h (fun w18 hw h => ?_)
            refine J_callV (As := [.int x1, .int x5]) (M' := M) (rv := some (Value.int w18)) (st := []) hC (fun l hl => cX3_signAt_ok M x0 x1 x5 _ hw l hl) vm_X3_signAt k_X3_44 ho ⟨rfl, rfl⟩ rfl ⟨Nat.le_of_ble_eq_true rfl, Nat.le_of_ble_eq_true rfl⟩ (Nat.zero_le _) ⟨Nat.le_of_ble_eq_true rfl, Nat.le_of_ble_eq_true rfl⟩ dX3_isQuotient_78 rfl ?_
            refine J_iload (j := 1) hC dX3_isQuotient_81 rfl ?_
            refine J_iload (j := 0) hC dX3_isQuotient_83 rfl ?_
            refine bnd_c h (fun w19 hw h => ?_)
            refine J_callS (As := [.int w18, .int v14, .int ((-x2) * v17)]) (M' := M) (rv := some (Value.int w19)) (st := []) hC (fun l hl => cX3_isInSum_ok M w18 v14 ((-x2) * v17) _ hw l hl) sm_X3_isInSum k_X3_59 rfl ⟨Nat.le_of_ble_eq_true rfl, Nat.le_of_ble_eq_true rfl⟩ (Nat.zero_le _) ⟨Nat.le_of_ble_eq_true rfl, Nat.le_of_ble_eq_true rfl⟩ dX3_isQuotient_85 rfl ?_
            refine J_istore (lv' := [(4, .int w19), (7, .int ((-x2) * v17)), (6, .int v14), (0, rf x0), (1, .int x1), (2, .int x2), (3, .int x3), (5, .int x5)]) hC dX3_isQuotient_88 (by decide) rfl ?_
            refine J_inc (j := 7) (k := 1) (lv' := [(5, .int (x5 + 1)), (4, .int w19), (7, .int ((-x2) * v17)), (6, .int v14), (0, rf x0), (1, .int x1), (2, .int x2), (3, .int x3)]) hC dX3_isQuotient_90 (by decide) rfl (by decide) rfl ?_
            refine J_goto (tgt := 19) hC dX3_isQuotient_93 (by decide) ?_
            refine J_sub [4, 5, 6, 7, 1, 0] rfl ?_
            exact ih w19 (x5 + 1) h
          · have h := ite_f c15 h
            refine J_iconst (v := 0) hC dX3_isQuotient_58 (by decide) ?_
            refine J_goto (tgt := 72) hC dX3_isQuotient_59 (by decide) ?_
            refine J_istore (lv' := [(7, .int 0), (6, .int v14), (0, rf x0), (1, .int x1), (2, .int x2), (3, .int x3), (4, .int x4), (5, .int x5)]) hC dX3_isQuotient_72 (by decide) rfl ?_
            refine J_aload_n (j := 2) hC dX3_isQuotient_74 rfl ?_
            refine J_iload_n (j := 3) hC dX3_isQuotient_75 rfl ?_
            refine J_iload (j := 7) hC dX3_isQuotient_76 rfl ?_
            refine ck_c h (fun ho h => ?_)
            refine bnd_c h (fun w20 hw h => ?_)
            refine J_callV (As := [.int x1, .int x5]) (M' := M) (rv := some (Value.int w20)) (st := []) hC (fun l hl => cX3_signAt_ok M x0 x1 x5 _ hw l hl) vm_X3_signAt k_X3_44 ho ⟨rfl, rfl⟩ rfl ⟨Nat.le_of_ble_eq_true rfl, Nat.le_of_ble_eq_true rfl⟩ (Nat.zero_le _) ⟨Nat.le_of_ble_eq_true rfl, Nat.le_of_ble_eq_true rfl⟩ dX3_isQuotient_78 rfl ?_
            refine J_iload (j := 1) hC dX3_isQuotient_81 rfl ?_
            refine J_iload (j := 0) hC dX3_isQuotient_83 rfl ?_
            refine bnd_c h (fun w21 hw h => ?_)
            refine J_callS (As := [.int w20, .int v14, .int 0]) (M' := M) (rv := some (Value.int w21)) (st := []) hC (fun l hl => cX3_isInSum_ok M w20 v14 0 _ hw l hl) sm_X3_isInSum k_X3_59 rfl ⟨Nat.le_of_ble_eq_true rfl, Nat.le_of_ble_eq_true rfl⟩ (Nat.zero_le _) ⟨Nat.le_of_ble_eq_true rfl, Nat.le_of_ble_eq_true rfl⟩ dX3_isQuotient_85 rfl ?_
            refine J_istore (lv' := [(4, .int w21), (7, .int 0), (6, .int v14), (0, rf x0), (1, .int x1), (2, .int x2), (3, .int x3), (5, .int x5)]) hC dX3_isQuotient_88 (by decide) rfl ?_
            refine J_inc (j := 7) (k := 1) (lv' := [(5, .int (x5 + 1)), (4, .int w21), (7, .int 0), (6, .int v14), (0, rf x0), (1, .int x1), (2, .int x2), (3, .int x3)]) hC dX3_isQuotient_90 (by decide) rfl (by decide) rfl ?_
            refine J_goto (tgt := 19) hC dX3_isQuotient_93 (by decide) ?_
            refine J_sub [4, 5, 6, 7, 1, 0] rfl ?_
            exact ih w21 (x5 + 1) h
        · have h := ite_t c5 h
          refine J_iconst (v := 0) hC dX3_isQuotient_37 (by decide) ?_
          refine J_goto (tgt := 50) hC dX3_isQuotient_38 (by decide) ?_
          refine J_istore (lv' := [(6, .int 0), (0, rf x0), (1, .int x1), (2, .int x2), (3, .int x3), (4, .int x4), (5, .int x5)]) hC dX3_isQuotient_50 (by decide) rfl ?_
          refine J_iload (j := 6) hC dX3_isQuotient_52 rfl ?_
          refine J_iload_n (j := 4) hC dX3_isQuotient_54 rfl ?_
          refine J_icmp_le (tgt := 62) hC dX3_isQuotient_55 (by decide) (fun c6 => ?_) (fun c6 => ?_)
          · have h := ite_t c6 h
            refine J_iload_n (j := 3) hC dX3_isQuotient_62 rfl ?_
            refine J_ineg hC dX3_isQuotient_63 ?_
            refine J_aload_n (j := 1) hC dX3_isQuotient_64 rfl ?_
            refine J_g3_8 hC k_X3_26 dX3_isQuotient_65 h (fun v7 _ h => ?_)
            refine J_iload (j := 6) hC dX3_isQuotient_68 rfl ?_
            refine J_iald hC dX3_isQuotient_70 h (fun v8 _ h => ?_)
            refine J_imul hC dX3_isQuotient_71 ?_
            refine J_istore (lv' := [(7, .int ((-x2) * v8)), (6, .int 0), (0, rf x0), (1, .int x1), (2, .int x2), (3, .int x3), (4, .int x4), (5, .int x5)]) hC dX3_isQuotient_72 (by decide) rfl ?_
            refine J_aload_n (j := 2) hC dX3_isQuotient_74 rfl ?_
            refine J_iload_n (j := 3) hC dX3_isQuotient_75 rfl ?_
            refine J_iload (j := 7) hC dX3_isQuotient_76 rfl ?_
            refine ck_c h (fun ho h => ?_)
            refine bnd_c h (fun w9 hw h => ?_)
            refine J_callV (As := [.int x1, .int x5]) (M' := M) (rv := some (Value.int w9)) (st := []) hC (fun l hl => cX3_signAt_ok M x0 x1 x5 _ hw l hl) vm_X3_signAt k_X3_44 ho ⟨rfl, rfl⟩ rfl ⟨Nat.le_of_ble_eq_true rfl, Nat.le_of_ble_eq_true rfl⟩ (Nat.zero_le _) ⟨Nat.le_of_ble_eq_true rfl, Nat.le_of_ble_eq_true rfl⟩ dX3_isQuotient_78 rfl ?_
            refine J_iload (j := 1) hC dX3_isQuotient_81 rfl ?_
            refine J_iload (j := 0) hC dX3_isQuotient_83 rfl ?_
            refine bnd_c h (fun w10 hw h => ?_)
            refine J_callS (As := [.int w9, .int 0, .int ((-x2) * v8)]) (M' := M) (rv := some (Value.int w10)) (st := []) hC (fun l hl => cX3_isInSum_ok M w9 0 ((-x2) * v8) _ hw l hl) sm_X3_isInSum k_X3_59 rfl ⟨Nat.le_of_ble_eq_true rfl, Nat.le_of_ble_eq_true rfl⟩ (Nat.zero_le _) ⟨Nat.le_of_ble_eq_true rfl, Nat.le_of_ble_eq_true rfl⟩ dX3_isQuotient_85 rfl ?_
            refine J_istore (lv' := [(4, .int w10), (7, .int ((-x2) * v8)), (6, .int 0), (0, rf x0), (1, .int x1), (2, .int x2), (3, .int x3), (5, .int x5)]) hC dX3_isQuotient_88 (by decide) rfl ?_
            refine J_inc (j := 7) (k := 1) (lv' := [(5, .int (x5 + 1)), (4, .int w10), (7, .int ((-x2) * v8)), (6, .int 0), (0, rf x0), (1, .int x1), (2, .int x2), (3, .int x3)]) hC dX3_isQuotient_90 (by decide) rfl (by decide) rfl ?_
            refine J_goto (tgt := 19) hC dX3_isQuotient_93 (by decide) ?_
            refine J_sub [4, 5, 6, 7, 1, 0] rfl ?_
            exact ih w10 (x5 + 1) h
          · have h := ite_f c6 h
            refine J_iconst (v := 0) hC dX3_isQuotient_58 (by decide) ?_
            refine J_goto (tgt := 72) hC dX3_isQuotient_59 (by decide) ?_
            refine J_istore (lv' := [(7, .int 0), (6, .int 0), (0, rf x0), (1, .int x1), (2, .int x2), (3, .int x3), (4, .int x4), (5, .int x5)]) hC dX3_isQuotient_72 (by decide) rfl ?_
            refine J_aload_n (j := 2) hC dX3_isQuotient_74 rfl ?_
            refine J_iload_n (j := 3) hC dX3_isQuotient_75 rfl ?_
            refine J_iload (j := 7) hC dX3_isQuotient_76 rfl ?_
            refine ck_c h (fun ho h => ?_)
            refine bnd_c h (fun w11 hw h => ?_)
            refine J_callV (As := [.int x1, .int x5]) (M' := M) (rv := some (Value.int w11)) (st := []) hC (fun l hl => cX3_signAt_ok M x0 x1 x5 _ hw l hl) vm_X3_signAt k_X3_44 ho ⟨rfl, rfl⟩ rfl ⟨Nat.le_of_ble_eq_true rfl, Nat.le_of_ble_eq_true rfl⟩ (Nat.zero_le _) ⟨Nat.le_of_ble_eq_true rfl, Nat.le_of_ble_eq_true rfl⟩ dX3_isQuotient_78 rfl ?_
            refine J_iload (j := 1) hC dX3_isQuotient_81 rfl ?_
            refine J_iload (j := 0) hC dX3_isQuotient_83 rfl ?_
            refine bnd_c h (fun w12 hw h => ?_)
            refine J_callS (As := [.int w11, .int 0, .int 0]) (M' := M) (rv := some (Value.int w12)) (st := []) hC (fun l hl => cX3_isInSum_ok M w11 0 0 _ hw l hl) sm_X3_isInSum k_X3_59 rfl ⟨Nat.le_of_ble_eq_true rfl, Nat.le_of_ble_eq_true rfl⟩ (Nat.zero_le _) ⟨Nat.le_of_ble_eq_true rfl, Nat.le_of_ble_eq_true rfl⟩ dX3_isQuotient_85 rfl ?_
            refine J_istore (lv' := [(4, .int w12), (7, .int 0), (6, .int 0), (0, rf x0), (1, .int x1), (2, .int x2), (3, .int x3), (5, .int x5)]) hC dX3_isQuotient_88 (by decide) rfl ?_
            refine J_inc (j := 7) (k := 1) (lv' := [(5, .int (x5 + 1)), (4, .int w12), (7, .int 0), (6, .int 0), (0, rf x0), (1, .int x1), (2, .int x2), (3, .int x3)]) hC dX3_isQuotient_90 (by decide) rfl (by decide) rfl ?_
            refine J_goto (tgt := 19) hC dX3_isQuotient_93 (by decide) ?_
            refine J_sub [4, 5, 6, 7, 1, 0] rfl ?_
            exact ih w12 (x5 + 1) h
set_option maxHeartbeats 4000000 in
set_option maxRecDepth 100000 in
theorem cX3_isQuotient_ok (M : Mem) (a0 : Option Nat) (a1 : Int32) (a2 : Int32) (a3 : Int32) (r0 : Int32) (h : fX3_isQuotient M a0 a1 a2 a3 = some r0) : ∀ l : Launch, l.stackTraces = false → Con false l yX3_isQuotient cX3_isQuotient 8 (some .boolean) rm_X3_isQuotient [rf a0, .int a1, .int a2, .int a3] M (M, Sum.inr (some (Value.int r0))) := by
  intro l hst
  refine Con.enter hst (own := RX3) (by decide +kernel) rfl (by exact Nat.le_of_ble_eq_true rfl) (lv0 := [(0, rf a0), (1, .int a1), (2, .int a2), (3, .int a3)]) (rfl) (fun C hC hin => ?_)
  unfold fX3_isQuotient at h
  refine J_aload_n (j := 0) hC dX3_isQuotient_0 rfl ?_
  refine J_g3_8 hC k_X3_26 dX3_isQuotient_1 h (fun v1 _ h => ?_)
  refine J_iload_n (j := 3) hC dX3_isQuotient_4 rfl ?_
  refine J_iald hC dX3_isQuotient_5 h (fun v2 _ h => ?_)
  have hj : ∀ (z24 : Int32), z24 = (if v2 = 0 then 0 else 1) → J C 0 0 M 14 [(0, rf a0), (1, .int a1), (2, .int a2), (3, .int a3)] [.int z24] := by
    intro z24 ez24
    subst ez24
    refine J_istore (lv' := [(4, .int (if v2 = 0 then 0 else 1)), (0, rf a0), (1, .int a1), (2, .int a2), (3, .int a3)]) hC dX3_isQuotient_14 (by decide) rfl ?_
    refine J_iconst (v := 0) hC dX3_isQuotient_16 (by decide) ?_
    refine J_istore (lv' := [(5, .int 0), (4, .int (if v2 = 0 then 0 else 1)), (0, rf a0), (1, .int a1), (2, .int a2), (3, .int a3)]) hC dX3_isQuotient_17 (by decide) rfl ?_
    refine J_sub [2, 3, 4, 5, 1, 0] rfl ?_
    refine tX3_isQuotient_19 M a0 a1 a2 a3 hC _ (fun x22 x23 h => ?_) FU (if v2 = 0 then 0 else 1) 0 h
    · refine J_iload (j := 4) hC dX3_isQuotient_96 rfl ?_
      refine chk_c h (fun hz h => ?_)
      exact J_zret hC dX3_isQuotient_98 (zb_nar hz) (by have h9 := Option.some.inj h; subst h9; rfl) (Nat.le_of_ble_eq_true rfl) (Nat.le_of_ble_eq_true rfl)
  refine J_if_eq (tgt := 13) hC dX3_isQuotient_6 (by decide) (fun c25 => ?_) (fun c25 => ?_)
  · refine J_iconst (v := 0) hC dX3_isQuotient_13 (by decide) ?_
    refine J_sub [0, 1, 2, 3] rfl ?_
    exact hj _ (if_pos c25).symm
  · refine J_iconst (v := 1) hC dX3_isQuotient_9 (by decide) ?_
    refine J_goto (tgt := 14) hC dX3_isQuotient_10 (by decide) ?_
    refine J_sub [0, 1, 2, 3] rfl ?_
    exact hj _ (if_neg c25).symm
abbrev rm_X3_notes : Room := { frames := 1, cells := 0, slots := 0, locals := 26 }

set_option maxHeartbeats 4000000 in
set_option maxRecDepth 100000 in
theorem tX3_notes_26 {C : JC} {r0 : Mem} (x0 : Option Nat) (x1 : Int32) (x2 : Int32) (x3 : Int32) (hC : Ok C false cX3_notes 5 rm_X3_notes none RX3 (r0, Sum.inr none))  (k63 : Mem → Int32 → Option (Mem)) (hk63 : ∀ (M : Mem) (x4 : Int32), k63 M x4 = some r0 → J C 0 0 M 63 [(0, rf x0), (1, .int x1), (2, .int x2), (3, .int x3), (4, .int x4)] []) : ∀ (n : Nat) (M : Mem) (x4 : Int32), fX3_notes_26 x0 x1 x2 x3 k63 n M x4 = some r0 → J C 0 0 M 26 [(0, rf x0), (1, .int x1), (2, .int x2), (3, .int x3), (4, .int x4)] [] := by
  intro n
  induction n with
  | zero => intro M x4 h; have h : none = some r0 := h; cases h
  | succ n ih =>
    intro M x4 h
    rw [fX3_notes_26] at h
    refine J_iload (j := 4) hC dX3_notes_26 rfl ?_
    refine J_bipush (v := 9) hC dX3_notes_28 (by decide) ?_
    refine J_icmp_ge (tgt := 63) hC dX3_notes_30 (by decide) (fun c6 => ?_) (fun c6 => ?_)
    · have h := ite_t c6 h
      refine J_sub [0, 1, 2, 3, 4] rfl ?_
      exact hk63 M x4 h
    · have h := ite_f c6 h
      refine J_aload_n (j := 0) hC dX3_notes_33 rfl ?_
      refine J_g3_9 hC k_X3_29 dX3_notes_34 h (fun v7 _ h => ?_)
      refine J_iload (j := 4) hC dX3_notes_37 rfl ?_
      refine J_iload (j := 4) hC dX3_notes_39 rfl ?_
      refine J_iload_n (j := 1) hC dX3_notes_41 rfl ?_
      refine J_icmp_gt (tgt := 55) hC dX3_notes_42 (by decide) (fun c8 => ?_) (fun c8 => ?_)
      · have h := ite_t c8 h
        refine J_iconst (v := 0) hC dX3_notes_55 (by decide) ?_
        refine J_iast hC dX3_notes_56 h (fun M9 _ h => ?_)
        refine J_inc (j := 4) (k := 1) (lv' := [(4, .int (x4 + 1)), (0, rf x0), (1, .int x1), (2, .int x2), (3, .int x3)]) hC dX3_notes_57 (by decide) rfl (by decide) rfl ?_
        refine J_goto (tgt := 26) hC dX3_notes_60 (by decide) ?_
        refine J_sub [1, 2, 3, 4, 0] rfl ?_
        exact ih M9 (x4 + 1) h
      · have h := ite_f c8 h
        refine J_aload_n (j := 0) hC dX3_notes_45 rfl ?_
        refine J_g3_8 hC k_X3_26 dX3_notes_46 h (fun v10 _ h => ?_)
        refine J_iload (j := 4) hC dX3_notes_49 rfl ?_
        refine J_iald hC dX3_notes_51 h (fun v11 _ h => ?_)
        refine J_goto (tgt := 56) hC dX3_notes_52 (by decide) ?_
        refine J_iast hC dX3_notes_56 h (fun M12 _ h => ?_)
        refine J_inc (j := 4) (k := 1) (lv' := [(4, .int (x4 + 1)), (0, rf x0), (1, .int x1), (2, .int x2), (3, .int x3)]) hC dX3_notes_57 (by decide) rfl (by decide) rfl ?_
        refine J_goto (tgt := 26) hC dX3_notes_60 (by decide) ?_
        refine J_sub [1, 2, 3, 4, 0] rfl ?_
        exact ih M12 (x4 + 1) h
set_option maxHeartbeats 4000000 in
set_option maxRecDepth 100000 in
theorem cX3_notes_ok (M : Mem) (a0 : Option Nat) (a1 : Int32) (a2 : Int32) (r0 : Mem) (h : fX3_notes M a0 a1 a2 = some r0) : ∀ l : Launch, l.stackTraces = false → Con false l yX3_notes cX3_notes 5 none rm_X3_notes [rf a0, .int a1, .int a2] M (r0, Sum.inr none) := by
  intro l hst
  refine Con.enter hst (own := RX3) (by decide +kernel) rfl (by exact Nat.le_of_ble_eq_true rfl) (lv0 := [(0, rf a0), (1, .int a1), (2, .int a2)]) (rfl) (fun C hC hin => ?_)
  unfold fX3_notes at h
  refine J_aload_n (j := 0) hC dX3_notes_0 rfl ?_
  refine J_g3_8 hC k_X3_26 dX3_notes_1 h (fun v1 _ h => ?_)
  refine J_iload_n (j := 1) hC dX3_notes_4 rfl ?_
  refine J_iload_n (j := 2) hC dX3_notes_5 rfl ?_
  refine bnd_c h (fun w2 hw h => ?_)
  refine J_callS (As := [rf v1, .int a1, .int a2]) (M' := M) (rv := some (Value.int w2)) (st := []) hC (fun l hl => cX3_changes_ok M v1 a1 a2 _ hw l hl) sm_X3_changes k_X3_55 rfl ⟨Nat.le_of_ble_eq_true rfl, Nat.le_of_ble_eq_true rfl⟩ (Nat.zero_le _) ⟨Nat.le_of_ble_eq_true rfl, Nat.le_of_ble_eq_true rfl⟩ dX3_notes_6 rfl ?_
  refine J_istore_n (i := 3) (lv' := [(3, .int w2), (0, rf a0), (1, .int a1), (2, .int a2)]) rfl hC dX3_notes_9 (by decide) rfl ?_
  refine J_iload_n (j := 0) hC dX3_notes_10 rfl ?_
  refine J_aload_n (j := 1) hC dX3_notes_11 rfl ?_
  refine J_g3_10 hC k_X3_62 dX3_notes_12 h (fun v3 _ h => ?_)
  refine J_icmp_le (tgt := 63) hC dX3_notes_15 (by decide) (fun c4 => ?_) (fun c4 => ?_)
  · have h := ite_t c4 h
    exact J_vret hC dX3_notes_63 (by have h9 := Option.some.inj h; subst h9; rfl) (Nat.le_of_ble_eq_true rfl) (Nat.le_of_ble_eq_true rfl)
  · have h := ite_f c4 h
    refine J_aload_n (j := 1) hC dX3_notes_18 rfl ?_
    refine J_iload_n (j := 0) hC dX3_notes_19 rfl ?_
    refine J_p3_10 hC k_X3_62 dX3_notes_20 h (fun M5 _ h => ?_)
    refine J_iconst (v := 0) hC dX3_notes_23 (by decide) ?_
    refine J_istore (lv' := [(4, .int 0), (3, .int w2), (0, rf a0), (1, .int a1), (2, .int a2)]) hC dX3_notes_24 (by decide) rfl ?_
    refine J_sub [2, 3, 4, 1, 0] rfl ?_
    refine tX3_notes_26 a0 a1 a2 w2 hC _ (fun M13 x14 h => ?_) FU M5 0 h
    · exact J_vret hC dX3_notes_63 (by have h9 := Option.some.inj h; subst h9; rfl) (Nat.le_of_ble_eq_true rfl) (Nat.le_of_ble_eq_true rfl)
abbrev rm_X3_divides : Room := { frames := 2, cells := 0, slots := 0, locals := 50 }

