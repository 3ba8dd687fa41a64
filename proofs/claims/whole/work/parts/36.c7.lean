set_option maxHeartbeats 4000000 in
set_option maxRecDepth 100000 in
theorem tX3_digest_208 {C : JC} {r0 : Mem × Int64} (x0 : Option Nat) (hC : Ok C false cX3_digest 2 rm_X3_digest (some .long) RX3 (r0.1, Sum.inr (some (Value.long r0.2))))  (k233 : Mem → Int32 → Option (Mem × Int64)) (hk233 : ∀ (M : Mem) (x1 : Int32), k233 M x1 = some r0 → J C 0 0 M 233 [(0, rf x0), (1, .int x1)] []) : ∀ (n : Nat) (M : Mem) (x1 : Int32), fX3_digest_208 x0 k233 n M x1 = some r0 → J C 0 0 M 208 [(0, rf x0), (1, .int x1)] [] := by
  intro n
  induction n with
  | zero => intro M x1 h; have h : none = some r0 := h; cases h
  | succ n ih =>
    intro M x1 h
    rw [fX3_digest_208] at h
    refine J_iload_n (j := 1) hC dX3_digest_208 rfl ?_
    refine J_aload_n (j := 0) hC dX3_digest_209 rfl ?_
    refine J_g3_7 hC k_X3_97 dX3_digest_210 h (fun v42 _ h => ?_)
    refine J_icmp_ge (tgt := 233) hC dX3_digest_213 (by decide) (fun c43 => ?_) (fun c43 => ?_)
    · have h := ite_t c43 h
      refine J_sub [0, 1] rfl ?_
      exact hk233 M x1 h
    · have h := ite_f c43 h
      refine J_aload_n (j := 0) hC dX3_digest_216 rfl ?_
      refine J_aload_n (j := 0) hC dX3_digest_217 rfl ?_
      refine J_g3_6 hC k_X3_23 dX3_digest_218 h (fun v44 _ h => ?_)
      refine J_iload_n (j := 1) hC dX3_digest_221 rfl ?_
      refine J_iald hC dX3_digest_222 h (fun v45 _ h => ?_)
      refine J_i2l hC dX3_digest_223 ?_
      refine ck_c h (fun ho h => ?_)
      refine bnd_c h (fun w46 hw h => ?_)
      refine J_callV (As := [.long v45.toInt64]) (M' := w46) (rv := none) (st := []) hC (fun l hl => cX3_hashes_ok M x0 v45.toInt64 _ hw l hl) vm_X3_hashes k_X3_161 ho ⟨rfl, rfl⟩ rfl ⟨Nat.le_of_ble_eq_true rfl, Nat.le_of_ble_eq_true rfl⟩ (Nat.zero_le _) ⟨Nat.le_of_ble_eq_true rfl, Nat.le_of_ble_eq_true rfl⟩ dX3_digest_224 rfl ?_
      refine J_inc (j := 1) (k := 1) (lv' := [(1, .int (x1 + 1)), (0, rf x0)]) hC dX3_digest_227 (by decide) rfl (by decide) rfl ?_
      refine J_goto (tgt := 208) hC dX3_digest_230 (by decide) ?_
      refine J_sub [1, 0] rfl ?_
      exact ih w46 (x1 + 1) h
set_option maxHeartbeats 4000000 in
set_option maxRecDepth 100000 in
theorem cX3_digest_ok (M : Mem) (a0 : Option Nat) (r0 : Mem × Int64) (h : fX3_digest M a0 = some r0) : ∀ l : Launch, l.stackTraces = false → Con false l yX3_digest cX3_digest 2 (some .long) rm_X3_digest [rf a0] M (r0.1, Sum.inr (some (Value.long r0.2))) := by
  intro l hst
  refine Con.enter hst (own := RX3) (by decide +kernel) rfl (by exact Nat.le_of_ble_eq_true rfl) (lv0 := [(0, rf a0)]) (rfl) (fun C hC hin => ?_)
  unfold fX3_digest at h
  refine J_aload_n (j := 0) hC dX3_digest_0 rfl ?_
  refine J_iconst (v := 0) hC dX3_digest_1 (by decide) ?_
  refine J_p3_0 hC k_X3_36 dX3_digest_2 h (fun M1 _ h => ?_)
  refine J_aload_n (j := 0) hC dX3_digest_5 rfl ?_
  refine J_ldc2 (v := 3623) hC k_X3_173 dX3_digest_6 ?_
  refine J_p3_12 hC k_X3_157 dX3_digest_9 h (fun M2 _ h => ?_)
  refine J_iconst (v := 0) hC dX3_digest_12 (by decide) ?_
  refine J_istore_n (i := 1) (lv' := [(1, .int 0), (0, rf a0)]) rfl hC dX3_digest_13 (by decide) rfl ?_
  refine J_sub [1, 0] rfl ?_
  refine tX3_digest_14 a0 hC _ (fun M6 x7 h => ?_) FU M2 0 h
  · refine J_iconst (v := 0) hC dX3_digest_36 (by decide) ?_
    refine J_istore_n (i := 1) (lv' := [(1, .int 0), (0, rf a0)]) rfl hC dX3_digest_37 (by decide) rfl ?_
    refine J_sub [1, 0] rfl ?_
    refine tX3_digest_38 a0 hC _ (fun M10 x11 h => ?_) FU M6 0 h
    · refine J_iconst (v := 0) hC dX3_digest_54 (by decide) ?_
      refine J_istore_n (i := 1) (lv' := [(1, .int 0), (0, rf a0)]) rfl hC dX3_digest_55 (by decide) rfl ?_
      refine J_sub [1, 0] rfl ?_
      refine tX3_digest_56 a0 hC _ (fun M17 x18 h => ?_) FU M10 0 h
      · refine J_aload_n (j := 0) hC dX3_digest_100 rfl ?_
        refine ck_c h (fun ho h => ?_)
        refine bnd_c h (fun w19 hw h => ?_)
        refine J_callV (As := []) (M' := w19) (rv := none) (st := []) hC (fun l hl => cX3_multiplies_ok M17 a0 _ hw l hl) vm_X3_multiplies k_X3_94 ho ⟨rfl, rfl⟩ rfl ⟨Nat.le_of_ble_eq_true rfl, Nat.le_of_ble_eq_true rfl⟩ (Nat.zero_le _) ⟨Nat.le_of_ble_eq_true rfl, Nat.le_of_ble_eq_true rfl⟩ dX3_digest_101 rfl ?_
        refine J_iconst (v := 0) hC dX3_digest_104 (by decide) ?_
        refine J_istore_n (i := 1) (lv' := [(1, .int 0), (0, rf a0)]) rfl hC dX3_digest_105 (by decide) rfl ?_
        refine J_sub [1, 0] rfl ?_
        refine tX3_digest_106 a0 hC _ (fun M24 x25 h => ?_) FU w19 0 h
        · refine J_iconst (v := 0) hC dX3_digest_128 (by decide) ?_
          refine J_istore_n (i := 1) (lv' := [(1, .int 0), (0, rf a0)]) rfl hC dX3_digest_129 (by decide) rfl ?_
          refine J_sub [1, 0] rfl ?_
          refine tX3_digest_130 a0 hC _ (fun M32 x33 h => ?_) FU M24 0 h
          · refine J_aload_n (j := 0) hC dX3_digest_161 rfl ?_
            refine J_aload_n (j := 0) hC dX3_digest_162 rfl ?_
            refine J_g3_5 hC k_X3_19 dX3_digest_163 h (fun v34 _ h => ?_)
            refine J_iconst (v := 0) hC dX3_digest_166 (by decide) ?_
            refine J_zald hC dX3_digest_167 h (fun v35 _ h => ?_)
            have hj : ∀ (z52 : Int64), z52 = (if v35 = 0 then 0 else 1) → J C 0 0 M32 176 [(0, rf a0), (1, .int x33)] [.long z52, rf a0] := by
              intro z52 ez52
              subst ez52
              refine ck_c h (fun ho h => ?_)
              refine bnd_c h (fun w36 hw h => ?_)
              refine J_callV (As := [.long (if v35 = 0 then 0 else 1)]) (M' := w36) (rv := none) (st := []) hC (fun l hl => cX3_hashes_ok M32 a0 (if v35 = 0 then 0 else 1) _ hw l hl) vm_X3_hashes k_X3_161 ho ⟨rfl, rfl⟩ rfl ⟨Nat.le_of_ble_eq_true rfl, Nat.le_of_ble_eq_true rfl⟩ (Nat.zero_le _) ⟨Nat.le_of_ble_eq_true rfl, Nat.le_of_ble_eq_true rfl⟩ dX3_digest_176 rfl ?_
              refine J_aload_n (j := 0) hC dX3_digest_179 rfl ?_
              refine J_aload_n (j := 0) hC dX3_digest_180 rfl ?_
              refine J_g3_5 hC k_X3_19 dX3_digest_181 h (fun v37 _ h => ?_)
              refine J_iconst (v := 1) hC dX3_digest_184 (by decide) ?_
              refine J_zald hC dX3_digest_185 h (fun v38 _ h => ?_)
              have hj : ∀ (z50 : Int64), z50 = (if v38 = 0 then 0 else 1) → J C 0 0 w36 194 [(0, rf a0), (1, .int x33)] [.long z50, rf a0] := by
                intro z50 ez50
                subst ez50
                refine ck_c h (fun ho h => ?_)
                refine bnd_c h (fun w39 hw h => ?_)
                refine J_callV (As := [.long (if v38 = 0 then 0 else 1)]) (M' := w39) (rv := none) (st := []) hC (fun l hl => cX3_hashes_ok w36 a0 (if v38 = 0 then 0 else 1) _ hw l hl) vm_X3_hashes k_X3_161 ho ⟨rfl, rfl⟩ rfl ⟨Nat.le_of_ble_eq_true rfl, Nat.le_of_ble_eq_true rfl⟩ (Nat.zero_le _) ⟨Nat.le_of_ble_eq_true rfl, Nat.le_of_ble_eq_true rfl⟩ dX3_digest_194 rfl ?_
                refine J_aload_n (j := 0) hC dX3_digest_197 rfl ?_
                refine J_aload_n (j := 0) hC dX3_digest_198 rfl ?_
                refine J_g3_7 hC k_X3_97 dX3_digest_199 h (fun v40 _ h => ?_)
                refine J_i2l hC dX3_digest_202 ?_
                refine ck_c h (fun ho h => ?_)
                refine bnd_c h (fun w41 hw h => ?_)
                refine J_callV (As := [.long v40.toInt64]) (M' := w41) (rv := none) (st := []) hC (fun l hl => cX3_hashes_ok w39 a0 v40.toInt64 _ hw l hl) vm_X3_hashes k_X3_161 ho ⟨rfl, rfl⟩ rfl ⟨Nat.le_of_ble_eq_true rfl, Nat.le_of_ble_eq_true rfl⟩ (Nat.zero_le _) ⟨Nat.le_of_ble_eq_true rfl, Nat.le_of_ble_eq_true rfl⟩ dX3_digest_203 rfl ?_
                refine J_iconst (v := 0) hC dX3_digest_206 (by decide) ?_
                refine J_istore_n (i := 1) (lv' := [(1, .int 0), (0, rf a0)]) rfl hC dX3_digest_207 (by decide) rfl ?_
                refine J_sub [1, 0] rfl ?_
                refine tX3_digest_208 a0 hC _ (fun M47 x48 h => ?_) FU w41 0 h
                · refine J_aload_n (j := 0) hC dX3_digest_233 rfl ?_
                  refine J_g3_12 hC k_X3_157 dX3_digest_234 h (fun v49 _ h => ?_)
                  exact J_lret hC dX3_digest_237 (by have h9 := Option.some.inj h; subst h9; rfl) (Nat.le_of_ble_eq_true rfl) (Nat.le_of_ble_eq_true rfl)
              refine J_if_eq (tgt := 193) hC dX3_digest_186 (by decide) (fun c51 => ?_) (fun c51 => ?_)
              · refine J_lconst (v := 0) hC dX3_digest_193 (by decide) ?_
                refine J_sub [0, 1] rfl ?_
                exact hj _ (if_pos c51).symm
              · refine J_lconst (v := 1) hC dX3_digest_189 (by decide) ?_
                refine J_goto (tgt := 194) hC dX3_digest_190 (by decide) ?_
                refine J_sub [0, 1] rfl ?_
                exact hj _ (if_neg c51).symm
            refine J_if_eq (tgt := 175) hC dX3_digest_168 (by decide) (fun c53 => ?_) (fun c53 => ?_)
            · refine J_lconst (v := 0) hC dX3_digest_175 (by decide) ?_
              refine J_sub [0, 1] rfl ?_
              exact hj _ (if_pos c53).symm
            · refine J_lconst (v := 1) hC dX3_digest_171 (by decide) ?_
              refine J_goto (tgt := 176) hC dX3_digest_172 (by decide) ?_
              refine J_sub [0, 1] rfl ?_
              exact hj _ (if_neg c53).symm
abbrev rm_L_put : Room := { frames := 8, cells := 3, slots := 18, locals := 134 }

set_option maxHeartbeats 4000000 in
set_option maxRecDepth 100000 in
theorem cL_put_ok (M : Mem) (a0 : Option Nat) (a1 : Int32) (a2 : Int32) (a3 : Int32) (a4 : Option Nat) (r0 : Mem × Int32) (h : fL_put M a0 a1 a2 a3 a4 = some r0) : ∀ l : Launch, l.stackTraces = false → ConW l yL_put cL_put 6 (some .int) [(0, 12, 15, 13), (0, 12, 19, 15)] rm_L_put [rf a0, .int a1, .int a2, .int a3, rf a4] M (r0.1, Sum.inr (some (Value.int r0.2))) := by
  intro l hst
  refine ConW.enter hst (own := RL) (by decide +kernel) rfl (by exact Nat.le_of_ble_eq_true rfl) (lv0 := [(0, rf a0), (1, .int a1), (2, .int a2), (3, .int a3), (4, rf a4)]) (rfl) (fun C hC htab => ?_)
  unfold fL_put at h
  refine J_aload (j := 4) hC dL_put_0 rfl ?_
  refine J_iconst (v := 0) hC dL_put_2 (by decide) ?_
  refine J_aload_n (j := 0) hC dL_put_3 rfl ?_
  refine J_iload_n (j := 1) hC dL_put_4 rfl ?_
  refine J_iload_n (j := 2) hC dL_put_5 rfl ?_
  refine J_iload_n (j := 3) hC dL_put_6 rfl ?_
  refine ck_c h (fun ho h => ?_)
  refine bnd_c h (fun w1 hw h => ?_)
  refine thrE_c h (fun E hE h => ?_) (fun v2 hv h => ?_)
  · refine ite_c h (fun c9 h => ?_) (fun c9 h => ?_)
    · subst c9
      refine J_catchV (E := "java/lang/IndexOutOfBoundsException") (name := "java/lang/IndexOutOfBoundsException") (hh := [(0, 12, 15, 13), (0, 12, 19, 15)]) (As := [.int a1, .int a2, .int a3]) (M' := w1.1) (st := [.int 0, rf a4]) [] (0, 12, 15, 13) [(0, 12, 19, 15)] hC htab rfl (fun z hz => absurd hz List.not_mem_nil) (by decide) (by decide) k_L_13 (fun U h => h.1.2.1) (fun l hl => by have h9 := cX2_put_ok M a0 a1 a2 a3 _ hw l hl; rw [hE] at h9; exact h9) vm_X2_put k_L_7 ho ⟨rfl, rfl⟩ rfl ⟨Nat.le_of_ble_eq_true rfl, Nat.le_of_ble_eq_true rfl⟩ (Nat.le_of_ble_eq_true rfl) ⟨Nat.le_of_ble_eq_true rfl, Nat.le_of_ble_eq_true rfl⟩ dL_put_7 rfl (fun q => ?_)
      refine J_astoreQ (lv' := [(5, .ref q), (0, rf a0), (1, .int a1), (2, .int a2), (3, .int a3), (4, rf a4)]) hC dL_put_15 (by decide) rfl ?_
      refine J_iconst (v := 1) hC dL_put_17 (by decide) ?_
      exact J_iret hC dL_put_18 (by have h9 := Option.some.inj h; subst h9; rfl) (Nat.le_of_ble_eq_true rfl) (Nat.le_of_ble_eq_true rfl)
    · refine ite_c h (fun c9 h => ?_) (fun c9 h => ?_)
      · subst c9
        refine J_catchV (E := "java/lang/IllegalArgumentException") (name := "java/lang/IllegalArgumentException") (hh := [(0, 12, 15, 13), (0, 12, 19, 15)]) (As := [.int a1, .int a2, .int a3]) (M' := w1.1) (st := [.int 0, rf a4]) [(0, 12, 15, 13)] (0, 12, 19, 15) [] hC htab rfl (fun z hz => by rw [List.mem_singleton.mp hz]; exact ⟨by decide, "java/lang/IndexOutOfBoundsException", k_L_13, fun U h => h.1⟩) (by decide) (by decide) k_L_15 (fun U h => h.1.1) (fun l hl => by have h9 := cX2_put_ok M a0 a1 a2 a3 _ hw l hl; rw [hE] at h9; exact h9) vm_X2_put k_L_7 ho ⟨rfl, rfl⟩ rfl ⟨Nat.le_of_ble_eq_true rfl, Nat.le_of_ble_eq_true rfl⟩ (Nat.le_of_ble_eq_true rfl) ⟨Nat.le_of_ble_eq_true rfl, Nat.le_of_ble_eq_true rfl⟩ dL_put_7 rfl (fun q => ?_)
        refine J_astoreQ (lv' := [(5, .ref q), (0, rf a0), (1, .int a1), (2, .int a2), (3, .int a3), (4, rf a4)]) hC dL_put_19 (by decide) rfl ?_
        refine J_iconst (v := 2) hC dL_put_21 (by decide) ?_
        exact J_iret hC dL_put_22 (by have h9 := Option.some.inj h; subst h9; rfl) (Nat.le_of_ble_eq_true rfl) (Nat.le_of_ble_eq_true rfl)
      · cases h
  · refine J_callVX (As := [.int a1, .int a2, .int a3]) (M' := w1.1) (rv := some (Value.int v2)) (st := [.int 0, rf a4]) hC (fun l hl => by have h9 := cX2_put_ok M a0 a1 a2 a3 _ hw l hl; rw [hv] at h9; exact h9) vm_X2_put k_L_7 ho ⟨rfl, rfl⟩ rfl ⟨Nat.le_of_ble_eq_true rfl, Nat.le_of_ble_eq_true rfl⟩ (Nat.le_of_ble_eq_true rfl) ⟨Nat.le_of_ble_eq_true rfl, Nat.le_of_ble_eq_true rfl⟩ dL_put_7 rfl ?_
    refine J_i2l hC dL_put_10 ?_
    refine J_last hC dL_put_11 h (fun M3 _ h => ?_)
    refine J_goto (tgt := 23) hC dL_put_12 (by decide) ?_
    refine J_iconst (v := 0) hC dL_put_23 (by decide) ?_
    exact J_iret hC dL_put_24 (by have h9 := Option.some.inj h; subst h9; rfl) (Nat.le_of_ble_eq_true rfl) (Nat.le_of_ble_eq_true rfl)
abbrev rm_L_copy : Room := { frames := 8, cells := 2, slots := 12, locals := 132 }

set_option maxHeartbeats 4000000 in
set_option maxRecDepth 100000 in
theorem cL_copy_ok (M : Mem) (a0 : Option Nat) (a1 : Int32) (a2 : Int32) (a3 : Option Nat) (r0 : Mem × Int32) (h : fL_copy M a0 a1 a2 a3 = some r0) : ∀ l : Launch, l.stackTraces = false → ConW l yL_copy cL_copy 5 (some .int) [(0, 10, 13, 13)] rm_L_copy [rf a0, .int a1, .int a2, rf a3] M (r0.1, Sum.inr (some (Value.int r0.2))) := by
  intro l hst
  refine ConW.enter hst (own := RL) (by decide +kernel) rfl (by exact Nat.le_of_ble_eq_true rfl) (lv0 := [(0, rf a0), (1, .int a1), (2, .int a2), (3, rf a3)]) (rfl) (fun C hC htab => ?_)
  unfold fL_copy at h
  refine J_aload_n (j := 3) hC dL_copy_0 rfl ?_
  refine J_iconst (v := 0) hC dL_copy_1 (by decide) ?_
  refine J_aload_n (j := 0) hC dL_copy_2 rfl ?_
  refine J_iload_n (j := 1) hC dL_copy_3 rfl ?_
  refine J_iload_n (j := 2) hC dL_copy_4 rfl ?_
  refine ck_c h (fun ho h => ?_)
  refine bnd_c h (fun w1 hw h => ?_)
  refine thrE_c h (fun E hE h => ?_) (fun v2 hv h => ?_)
  · refine ite_c h (fun c9 h => ?_) (fun c9 h => ?_)
    · subst c9
      refine J_catchV (E := "java/lang/IndexOutOfBoundsException") (name := "java/lang/IndexOutOfBoundsException") (hh := [(0, 10, 13, 13)]) (As := [.int a1, .int a2]) (M' := w1.1) (st := [.int 0, rf a3]) [] (0, 10, 13, 13) [] hC htab rfl (fun z hz => absurd hz List.not_mem_nil) (by decide) (by decide) k_L_13 (fun U h => h.1.2.1) (fun l hl => by have h9 := cX2_copy_ok M a0 a1 a2 _ hw l hl; rw [hE] at h9; exact h9) vm_X2_copy k_L_17 ho ⟨rfl, rfl⟩ rfl ⟨Nat.le_of_ble_eq_true rfl, Nat.le_of_ble_eq_true rfl⟩ (Nat.le_of_ble_eq_true rfl) ⟨Nat.le_of_ble_eq_true rfl, Nat.le_of_ble_eq_true rfl⟩ dL_copy_5 rfl (fun q => ?_)
      refine J_astoreQ (lv' := [(4, .ref q), (0, rf a0), (1, .int a1), (2, .int a2), (3, rf a3)]) hC dL_copy_13 (by decide) rfl ?_
      refine J_iconst (v := 1) hC dL_copy_15 (by decide) ?_
      exact J_iret hC dL_copy_16 (by have h9 := Option.some.inj h; subst h9; rfl) (Nat.le_of_ble_eq_true rfl) (Nat.le_of_ble_eq_true rfl)
    · cases h
  · refine J_callVX (As := [.int a1, .int a2]) (M' := w1.1) (rv := some (Value.int v2)) (st := [.int 0, rf a3]) hC (fun l hl => by have h9 := cX2_copy_ok M a0 a1 a2 _ hw l hl; rw [hv] at h9; exact h9) vm_X2_copy k_L_17 ho ⟨rfl, rfl⟩ rfl ⟨Nat.le_of_ble_eq_true rfl, Nat.le_of_ble_eq_true rfl⟩ (Nat.le_of_ble_eq_true rfl) ⟨Nat.le_of_ble_eq_true rfl, Nat.le_of_ble_eq_true rfl⟩ dL_copy_5 rfl ?_
    refine J_i2l hC dL_copy_8 ?_
    refine J_last hC dL_copy_9 h (fun M3 _ h => ?_)
    refine J_goto (tgt := 17) hC dL_copy_10 (by decide) ?_
    refine J_iconst (v := 0) hC dL_copy_17 (by decide) ?_
    exact J_iret hC dL_copy_18 (by have h9 := Option.some.inj h; subst h9; rfl) (Nat.le_of_ble_eq_true rfl) (Nat.le_of_ble_eq_true rfl)
abbrev rm_L_divide : Room := { frames := 18, cells := 2, slots := 12, locals := 486 }

set_option maxHeartbeats 4000000 in
set_option maxRecDepth 100000 in
theorem cL_divide_ok (M : Mem) (a0 : Option Nat) (a1 : Int32) (a2 : Int32) (a3 : Option Nat) (r0 : Mem × Int32) (h : fL_divide M a0 a1 a2 a3 = some r0) : ∀ l : Launch, l.stackTraces = false → ConW l yL_divide cL_divide 5 (some .int) [(0, 10, 13, 13), (0, 10, 17, 15)] rm_L_divide [rf a0, .int a1, .int a2, rf a3] M (r0.1, Sum.inr (some (Value.int r0.2))) := by
  intro l hst
  refine ConW.enter hst (own := RL) (by decide +kernel) rfl (by exact Nat.le_of_ble_eq_true rfl) (lv0 := [(0, rf a0), (1, .int a1), (2, .int a2), (3, rf a3)]) (rfl) (fun C hC htab => ?_)
  unfold fL_divide at h
  refine J_aload_n (j := 3) hC dL_divide_0 rfl ?_
  refine J_iconst (v := 0) hC dL_divide_1 (by decide) ?_
  refine J_aload_n (j := 0) hC dL_divide_2 rfl ?_
  refine J_iload_n (j := 1) hC dL_divide_3 rfl ?_
  refine J_iload_n (j := 2) hC dL_divide_4 rfl ?_
  refine ck_c h (fun ho h => ?_)
  refine bnd_c h (fun w1 hw h => ?_)
  refine thrE_c h (fun E hE h => ?_) (fun v2 hv h => ?_)
  · refine ite_c h (fun c9 h => ?_) (fun c9 h => ?_)
    · subst c9
      refine J_catchV (E := "java/lang/IndexOutOfBoundsException") (name := "java/lang/IndexOutOfBoundsException") (hh := [(0, 10, 13, 13), (0, 10, 17, 15)]) (As := [.int a1, .int a2]) (M' := w1.1) (st := [.int 0, rf a3]) [] (0, 10, 13, 13) [(0, 10, 17, 15)] hC htab rfl (fun z hz => absurd hz List.not_mem_nil) (by decide) (by decide) k_L_13 (fun U h => h.1.2.1) (fun l hl => by have h9 := cX2_divide_ok M a0 a1 a2 _ hw l hl; rw [hE] at h9; exact h9) vm_X2_divide k_L_21 ho ⟨rfl, rfl⟩ rfl ⟨Nat.le_of_ble_eq_true rfl, Nat.le_of_ble_eq_true rfl⟩ (Nat.le_of_ble_eq_true rfl) ⟨Nat.le_of_ble_eq_true rfl, Nat.le_of_ble_eq_true rfl⟩ dL_divide_5 rfl (fun q => ?_)
      refine J_astoreQ (lv' := [(4, .ref q), (0, rf a0), (1, .int a1), (2, .int a2), (3, rf a3)]) hC dL_divide_13 (by decide) rfl ?_
      refine J_iconst (v := 1) hC dL_divide_15 (by decide) ?_
      exact J_iret hC dL_divide_16 (by have h9 := Option.some.inj h; subst h9; rfl) (Nat.le_of_ble_eq_true rfl) (Nat.le_of_ble_eq_true rfl)
    · refine ite_c h (fun c9 h => ?_) (fun c9 h => ?_)
      · subst c9
        refine J_catchV (E := "java/lang/IllegalArgumentException") (name := "java/lang/IllegalArgumentException") (hh := [(0, 10, 13, 13), (0, 10, 17, 15)]) (As := [.int a1, .int a2]) (M' := w1.1) (st := [.int 0, rf a3]) [(0, 10, 13, 13)] (0, 10, 17, 15) [] hC htab rfl (fun z hz => by rw [List.mem_singleton.mp hz]; exact ⟨by decide, "java/lang/IndexOutOfBoundsException", k_L_13, fun U h => h.1⟩) (by decide) (by decide) k_L_15 (fun U h => h.1.1) (fun l hl => by have h9 := cX2_divide_ok M a0 a1 a2 _ hw l hl; rw [hE] at h9; exact h9) vm_X2_divide k_L_21 ho ⟨rfl, rfl⟩ rfl ⟨Nat.le_of_ble_eq_true rfl, Nat.le_of_ble_eq_true rfl⟩ (Nat.le_of_ble_eq_true rfl) ⟨Nat.le_of_ble_eq_true rfl, Nat.le_of_ble_eq_true rfl⟩ dL_divide_5 rfl (fun q => ?_)
        refine J_astoreQ (lv' := [(4, .ref q), (0, rf a0), (1, .int a1), (2, .int a2), (3, rf a3)]) hC dL_divide_17 (by decide) rfl ?_
        refine J_iconst (v := 2) hC dL_divide_19 (by decide) ?_
        exact J_iret hC dL_divide_20 (by have h9 := Option.some.inj h; subst h9; rfl) (Nat.le_of_ble_eq_true rfl) (Nat.le_of_ble_eq_true rfl)
      · cases h
  · refine J_callVX (As := [.int a1, .int a2]) (M' := w1.1) (rv := some (Value.int v2)) (st := [.int 0, rf a3]) hC (fun l hl => by have h9 := cX2_divide_ok M a0 a1 a2 _ hw l hl; rw [hv] at h9; exact h9) vm_X2_divide k_L_21 ho ⟨rfl, rfl⟩ rfl ⟨Nat.le_of_ble_eq_true rfl, Nat.le_of_ble_eq_true rfl⟩ (Nat.le_of_ble_eq_true rfl) ⟨Nat.le_of_ble_eq_true rfl, Nat.le_of_ble_eq_true rfl⟩ dL_divide_5 rfl ?_
    refine J_i2l hC dL_divide_8 ?_
    refine J_last hC dL_divide_9 h (fun M3 _ h => ?_)
    refine J_goto (tgt := 21) hC dL_divide_10 (by decide) ?_
    refine J_iconst (v := 0) hC dL_divide_21 (by decide) ?_
    exact J_iret hC dL_divide_22 (by have h9 := Option.some.inj h; subst h9; rfl) (Nat.le_of_ble_eq_true rfl) (Nat.le_of_ble_eq_true rfl)
abbrev rm_L_root : Room := { frames := 7, cells := 1, slots := 6, locals := 111 }

set_option maxHeartbeats 4000000 in
set_option maxRecDepth 100000 in
theorem cL_root_ok (M : Mem) (a0 : Option Nat) (a1 : Int32) (a2 : Option Nat) (r0 : Mem × Int32) (h : fL_root M a0 a1 a2 = some r0) : ∀ l : Launch, l.stackTraces = false → ConW l yL_root cL_root 4 (some .int) [(0, 9, 12, 15)] rm_L_root [rf a0, .int a1, rf a2] M (r0.1, Sum.inr (some (Value.int r0.2))) := by
  intro l hst
  refine ConW.enter hst (own := RL) (by decide +kernel) rfl (by exact Nat.le_of_ble_eq_true rfl) (lv0 := [(0, rf a0), (1, .int a1), (2, rf a2)]) (rfl) (fun C hC htab => ?_)
  unfold fL_root at h
  refine J_aload_n (j := 2) hC dL_root_0 rfl ?_
  refine J_iconst (v := 0) hC dL_root_1 (by decide) ?_
  refine J_aload_n (j := 0) hC dL_root_2 rfl ?_
  refine J_iload_n (j := 1) hC dL_root_3 rfl ?_
  refine ck_c h (fun ho h => ?_)
  refine bnd_c h (fun w1 hw h => ?_)
  refine thrE_c h (fun E hE h => ?_) (fun v2 hv h => ?_)
  · refine ite_c h (fun c9 h => ?_) (fun c9 h => ?_)
    · subst c9
      refine J_catchV (E := "java/lang/IllegalArgumentException") (name := "java/lang/IllegalArgumentException") (hh := [(0, 9, 12, 15)]) (As := [.int a1]) (M' := w1.1) (st := [.int 0, rf a2]) [] (0, 9, 12, 15) [] hC htab rfl (fun z hz => absurd hz List.not_mem_nil) (by decide) (by decide) k_L_15 (fun U h => h.1.1) (fun l hl => by have h9 := cX2_root_ok M a0 a1 _ hw l hl; rw [hE] at h9; exact h9) vm_X2_root k_L_24 ho ⟨rfl, rfl⟩ rfl ⟨Nat.le_of_ble_eq_true rfl, Nat.le_of_ble_eq_true rfl⟩ (Nat.le_of_ble_eq_true rfl) ⟨Nat.le_of_ble_eq_true rfl, Nat.le_of_ble_eq_true rfl⟩ dL_root_4 rfl (fun q => ?_)
      refine J_astoreQ_n (i := 3) (lv' := [(3, .ref q), (0, rf a0), (1, .int a1), (2, rf a2)]) rfl hC dL_root_12 (by decide) rfl ?_
      refine J_iconst (v := 1) hC dL_root_13 (by decide) ?_
      exact J_iret hC dL_root_14 (by have h9 := Option.some.inj h; subst h9; rfl) (Nat.le_of_ble_eq_true rfl) (Nat.le_of_ble_eq_true rfl)
    · cases h
  · refine J_callVX (As := [.int a1]) (M' := w1.1) (rv := some (Value.int v2)) (st := [.int 0, rf a2]) hC (fun l hl => by have h9 := cX2_root_ok M a0 a1 _ hw l hl; rw [hv] at h9; exact h9) vm_X2_root k_L_24 ho ⟨rfl, rfl⟩ rfl ⟨Nat.le_of_ble_eq_true rfl, Nat.le_of_ble_eq_true rfl⟩ (Nat.le_of_ble_eq_true rfl) ⟨Nat.le_of_ble_eq_true rfl, Nat.le_of_ble_eq_true rfl⟩ dL_root_4 rfl ?_
    refine J_i2l hC dL_root_7 ?_
    refine J_last hC dL_root_8 h (fun M3 _ h => ?_)
    refine J_goto (tgt := 15) hC dL_root_9 (by decide) ?_
    refine J_iconst (v := 0) hC dL_root_15 (by decide) ?_
    exact J_iret hC dL_root_16 (by have h9 := Option.some.inj h; subst h9; rfl) (Nat.le_of_ble_eq_true rfl) (Nat.le_of_ble_eq_true rfl)
abbrev rm_L_lower : Room := { frames := 8, cells := 1, slots := 6, locals := 133 }

set_option maxHeartbeats 4000000 in
set_option maxRecDepth 100000 in
theorem cL_lower_ok (M : Mem) (a0 : Option Nat) (a1 : Int32) (a2 : Option Nat) (r0 : Mem × Int32) (h : fL_lower M a0 a1 a2 = some r0) : ∀ l : Launch, l.stackTraces = false → ConW l yL_lower cL_lower 4 (some .int) [(0, 9, 12, 13)] rm_L_lower [rf a0, .int a1, rf a2] M (r0.1, Sum.inr (some (Value.int r0.2))) := by
  intro l hst
  refine ConW.enter hst (own := RL) (by decide +kernel) rfl (by exact Nat.le_of_ble_eq_true rfl) (lv0 := [(0, rf a0), (1, .int a1), (2, rf a2)]) (rfl) (fun C hC htab => ?_)
  unfold fL_lower at h
  refine J_aload_n (j := 2) hC dL_lower_0 rfl ?_
  refine J_iconst (v := 0) hC dL_lower_1 (by decide) ?_
  refine J_aload_n (j := 0) hC dL_lower_2 rfl ?_
  refine J_iload_n (j := 1) hC dL_lower_3 rfl ?_
  refine ck_c h (fun ho h => ?_)
  refine bnd_c h (fun w1 hw h => ?_)
  refine thrE_c h (fun E hE h => ?_) (fun v2 hv h => ?_)
  · refine ite_c h (fun c9 h => ?_) (fun c9 h => ?_)
    · subst c9
      refine J_catchV (E := "java/lang/IndexOutOfBoundsException") (name := "java/lang/IndexOutOfBoundsException") (hh := [(0, 9, 12, 13)]) (As := [.int a1]) (M' := w1.1) (st := [.int 0, rf a2]) [] (0, 9, 12, 13) [] hC htab rfl (fun z hz => absurd hz List.not_mem_nil) (by decide) (by decide) k_L_13 (fun U h => h.1.2.1) (fun l hl => by have h9 := cX2_lower_ok M a0 a1 _ hw l hl; rw [hE] at h9; exact h9) vm_X2_lower k_L_28 ho ⟨rfl, rfl⟩ rfl ⟨Nat.le_of_ble_eq_true rfl, Nat.le_of_ble_eq_true rfl⟩ (Nat.le_of_ble_eq_true rfl) ⟨Nat.le_of_ble_eq_true rfl, Nat.le_of_ble_eq_true rfl⟩ dL_lower_4 rfl (fun q => ?_)
      refine J_astoreQ_n (i := 3) (lv' := [(3, .ref q), (0, rf a0), (1, .int a1), (2, rf a2)]) rfl hC dL_lower_12 (by decide) rfl ?_
      refine J_iconst (v := 1) hC dL_lower_13 (by decide) ?_
      exact J_iret hC dL_lower_14 (by have h9 := Option.some.inj h; subst h9; rfl) (Nat.le_of_ble_eq_true rfl) (Nat.le_of_ble_eq_true rfl)
    · cases h
  · refine J_callVX (As := [.int a1]) (M' := w1.1) (rv := some (Value.int v2)) (st := [.int 0, rf a2]) hC (fun l hl => by have h9 := cX2_lower_ok M a0 a1 _ hw l hl; rw [hv] at h9; exact h9) vm_X2_lower k_L_28 ho ⟨rfl, rfl⟩ rfl ⟨Nat.le_of_ble_eq_true rfl, Nat.le_of_ble_eq_true rfl⟩ (Nat.le_of_ble_eq_true rfl) ⟨Nat.le_of_ble_eq_true rfl, Nat.le_of_ble_eq_true rfl⟩ dL_lower_4 rfl ?_
    refine J_i2l hC dL_lower_7 ?_
    refine J_last hC dL_lower_8 h (fun M3 _ h => ?_)
    refine J_goto (tgt := 15) hC dL_lower_9 (by decide) ?_
    refine J_iconst (v := 0) hC dL_lower_15 (by decide) ?_
    exact J_iret hC dL_lower_16 (by have h9 := Option.some.inj h; subst h9; rfl) (Nat.le_of_ble_eq_true rfl) (Nat.le_of_ble_eq_true rfl)
abbrev rm_L_append : Room := { frames := 7, cells := 1, slots := 6, locals := 111 }

set_option maxHeartbeats 4000000 in
set_option maxRecDepth 100000 in
theorem cL_append_ok (M : Mem) (a0 : Option Nat) (a1 : Int32) (a2 : Option Nat) (r0 : Mem × Int32) (h : fL_append M a0 a1 a2 = some r0) : ∀ l : Launch, l.stackTraces = false → ConW l yL_append cL_append 4 (some .int) [(0, 9, 12, 15), (0, 9, 15, 34)] rm_L_append [rf a0, .int a1, rf a2] M (r0.1, Sum.inr (some (Value.int r0.2))) := by
  intro l hst
  refine ConW.enter hst (own := RL) (by decide +kernel) rfl (by exact Nat.le_of_ble_eq_true rfl) (lv0 := [(0, rf a0), (1, .int a1), (2, rf a2)]) (rfl) (fun C hC htab => ?_)
  unfold fL_append at h
  refine J_aload_n (j := 2) hC dL_append_0 rfl ?_
  refine J_iconst (v := 0) hC dL_append_1 (by decide) ?_
  refine J_aload_n (j := 0) hC dL_append_2 rfl ?_
  refine J_iload_n (j := 1) hC dL_append_3 rfl ?_
  refine ck_c h (fun ho h => ?_)
  refine bnd_c h (fun w1 hw h => ?_)
  refine thrE_c h (fun E hE h => ?_) (fun v2 hv h => ?_)
  · refine ite_c h (fun c9 h => ?_) (fun c9 h => ?_)
    · subst c9
      refine J_catchV (E := "java/lang/IllegalArgumentException") (name := "java/lang/IllegalArgumentException") (hh := [(0, 9, 12, 15), (0, 9, 15, 34)]) (As := [.int a1]) (M' := w1.1) (st := [.int 0, rf a2]) [] (0, 9, 12, 15) [(0, 9, 15, 34)] hC htab rfl (fun z hz => absurd hz List.not_mem_nil) (by decide) (by decide) k_L_15 (fun U h => h.1.1) (fun l hl => by have h9 := cX2_append_ok M a0 a1 _ hw l hl; rw [hE] at h9; exact h9) vm_X2_append k_L_31 ho ⟨rfl, rfl⟩ rfl ⟨Nat.le_of_ble_eq_true rfl, Nat.le_of_ble_eq_true rfl⟩ (Nat.le_of_ble_eq_true rfl) ⟨Nat.le_of_ble_eq_true rfl, Nat.le_of_ble_eq_true rfl⟩ dL_append_4 rfl (fun q => ?_)
      refine J_astoreQ_n (i := 3) (lv' := [(3, .ref q), (0, rf a0), (1, .int a1), (2, rf a2)]) rfl hC dL_append_12 (by decide) rfl ?_
      refine J_iconst (v := 1) hC dL_append_13 (by decide) ?_
      exact J_iret hC dL_append_14 (by have h9 := Option.some.inj h; subst h9; rfl) (Nat.le_of_ble_eq_true rfl) (Nat.le_of_ble_eq_true rfl)
    · refine ite_c h (fun c9 h => ?_) (fun c9 h => ?_)
      · subst c9
        refine J_catchV (E := "java/lang/IllegalStateException") (name := "java/lang/IllegalStateException") (hh := [(0, 9, 12, 15), (0, 9, 15, 34)]) (As := [.int a1]) (M' := w1.1) (st := [.int 0, rf a2]) [(0, 9, 12, 15)] (0, 9, 15, 34) [] hC htab rfl (fun z hz => by rw [List.mem_singleton.mp hz]; exact ⟨by decide, "java/lang/IllegalArgumentException", k_L_15, fun U h => h.2⟩) (by decide) (by decide) k_L_34 (fun U h => h.1.2.2) (fun l hl => by have h9 := cX2_append_ok M a0 a1 _ hw l hl; rw [hE] at h9; exact h9) vm_X2_append k_L_31 ho ⟨rfl, rfl⟩ rfl ⟨Nat.le_of_ble_eq_true rfl, Nat.le_of_ble_eq_true rfl⟩ (Nat.le_of_ble_eq_true rfl) ⟨Nat.le_of_ble_eq_true rfl, Nat.le_of_ble_eq_true rfl⟩ dL_append_4 rfl (fun q => ?_)
        refine J_astoreQ_n (i := 3) (lv' := [(3, .ref q), (0, rf a0), (1, .int a1), (2, rf a2)]) rfl hC dL_append_15 (by decide) rfl ?_
        refine J_iconst (v := 2) hC dL_append_16 (by decide) ?_
        exact J_iret hC dL_append_17 (by have h9 := Option.some.inj h; subst h9; rfl) (Nat.le_of_ble_eq_true rfl) (Nat.le_of_ble_eq_true rfl)
      · cases h
  · refine J_callVX (As := [.int a1]) (M' := w1.1) (rv := some (Value.int v2)) (st := [.int 0, rf a2]) hC (fun l hl => by have h9 := cX2_append_ok M a0 a1 _ hw l hl; rw [hv] at h9; exact h9) vm_X2_append k_L_31 ho ⟨rfl, rfl⟩ rfl ⟨Nat.le_of_ble_eq_true rfl, Nat.le_of_ble_eq_true rfl⟩ (Nat.le_of_ble_eq_true rfl) ⟨Nat.le_of_ble_eq_true rfl, Nat.le_of_ble_eq_true rfl⟩ dL_append_4 rfl ?_
    refine J_i2l hC dL_append_7 ?_
    refine J_last hC dL_append_8 h (fun M3 _ h => ?_)
    refine J_goto (tgt := 18) hC dL_append_9 (by decide) ?_
    refine J_iconst (v := 0) hC dL_append_18 (by decide) ?_
    exact J_iret hC dL_append_19 (by have h9 := Option.some.inj h; subst h9; rfl) (Nat.le_of_ble_eq_true rfl) (Nat.le_of_ble_eq_true rfl)
abbrev rm_L_load : Room := { frames := 8, cells := 2, slots := 12, locals := 133 }

set_option maxHeartbeats 4000000 in
set_option maxRecDepth 100000 in
theorem cL_load_ok (M : Mem) (a0 : Option Nat) (a1 : Int32) (a2 : Option Nat) (r0 : Mem × Int32) (h : fL_load M a0 a1 a2 = some r0) : ∀ l : Launch, l.stackTraces = false → ConW l yL_load cL_load 4 (some .int) [(0, 9, 12, 13), (0, 9, 15, 15)] rm_L_load [rf a0, .int a1, rf a2] M (r0.1, Sum.inr (some (Value.int r0.2))) := by
  intro l hst
  refine ConW.enter hst (own := RL) (by decide +kernel) rfl (by exact Nat.le_of_ble_eq_true rfl) (lv0 := [(0, rf a0), (1, .int a1), (2, rf a2)]) (rfl) (fun C hC htab => ?_)
  unfold fL_load at h
  refine J_aload_n (j := 2) hC dL_load_0 rfl ?_
  refine J_iconst (v := 0) hC dL_load_1 (by decide) ?_
  refine J_aload_n (j := 0) hC dL_load_2 rfl ?_
  refine J_iload_n (j := 1) hC dL_load_3 rfl ?_
  refine ck_c h (fun ho h => ?_)
  refine bnd_c h (fun w1 hw h => ?_)
  refine thrE_c h (fun E hE h => ?_) (fun v2 hv h => ?_)
  · refine ite_c h (fun c9 h => ?_) (fun c9 h => ?_)
    · subst c9
      refine J_catchV (E := "java/lang/IndexOutOfBoundsException") (name := "java/lang/IndexOutOfBoundsException") (hh := [(0, 9, 12, 13), (0, 9, 15, 15)]) (As := [.int a1]) (M' := w1.1) (st := [.int 0, rf a2]) [] (0, 9, 12, 13) [(0, 9, 15, 15)] hC htab rfl (fun z hz => absurd hz List.not_mem_nil) (by decide) (by decide) k_L_13 (fun U h => h.1.2.1) (fun l hl => by have h9 := cX2_load_ok M a0 a1 _ hw l hl; rw [hE] at h9; exact h9) vm_X2_load k_L_36 ho ⟨rfl, rfl⟩ rfl ⟨Nat.le_of_ble_eq_true rfl, Nat.le_of_ble_eq_true rfl⟩ (Nat.le_of_ble_eq_true rfl) ⟨Nat.le_of_ble_eq_true rfl, Nat.le_of_ble_eq_true rfl⟩ dL_load_4 rfl (fun q => ?_)
      refine J_astoreQ_n (i := 3) (lv' := [(3, .ref q), (0, rf a0), (1, .int a1), (2, rf a2)]) rfl hC dL_load_12 (by decide) rfl ?_
      refine J_iconst (v := 1) hC dL_load_13 (by decide) ?_
      exact J_iret hC dL_load_14 (by have h9 := Option.some.inj h; subst h9; rfl) (Nat.le_of_ble_eq_true rfl) (Nat.le_of_ble_eq_true rfl)
    · refine ite_c h (fun c9 h => ?_) (fun c9 h => ?_)
      · subst c9
        refine J_catchV (E := "java/lang/IllegalArgumentException") (name := "java/lang/IllegalArgumentException") (hh := [(0, 9, 12, 13), (0, 9, 15, 15)]) (As := [.int a1]) (M' := w1.1) (st := [.int 0, rf a2]) [(0, 9, 12, 13)] (0, 9, 15, 15) [] hC htab rfl (fun z hz => by rw [List.mem_singleton.mp hz]; exact ⟨by decide, "java/lang/IndexOutOfBoundsException", k_L_13, fun U h => h.1⟩) (by decide) (by decide) k_L_15 (fun U h => h.1.1) (fun l hl => by have h9 := cX2_load_ok M a0 a1 _ hw l hl; rw [hE] at h9; exact h9) vm_X2_load k_L_36 ho ⟨rfl, rfl⟩ rfl ⟨Nat.le_of_ble_eq_true rfl, Nat.le_of_ble_eq_true rfl⟩ (Nat.le_of_ble_eq_true rfl) ⟨Nat.le_of_ble_eq_true rfl, Nat.le_of_ble_eq_true rfl⟩ dL_load_4 rfl (fun q => ?_)
        refine J_astoreQ_n (i := 3) (lv' := [(3, .ref q), (0, rf a0), (1, .int a1), (2, rf a2)]) rfl hC dL_load_15 (by decide) rfl ?_
        refine J_iconst (v := 2) hC dL_load_16 (by decide) ?_
        exact J_iret hC dL_load_17 (by have h9 := Option.some.inj h; subst h9; rfl) (Nat.le_of_ble_eq_true rfl) (Nat.le_of_ble_eq_true rfl)
      · cases h
  · refine J_callVX (As := [.int a1]) (M' := w1.1) (rv := some (Value.int v2)) (st := [.int 0, rf a2]) hC (fun l hl => by have h9 := cX2_load_ok M a0 a1 _ hw l hl; rw [hv] at h9; exact h9) vm_X2_load k_L_36 ho ⟨rfl, rfl⟩ rfl ⟨Nat.le_of_ble_eq_true rfl, Nat.le_of_ble_eq_true rfl⟩ (Nat.le_of_ble_eq_true rfl) ⟨Nat.le_of_ble_eq_true rfl, Nat.le_of_ble_eq_true rfl⟩ dL_load_4 rfl ?_
    refine J_i2l hC dL_load_7 ?_
    refine J_last hC dL_load_8 h (fun M3 _ h => ?_)
    refine J_goto (tgt := 18) hC dL_load_9 (by decide) ?_
    refine J_iconst (v := 0) hC dL_load_18 (by decide) ?_
    exact J_iret hC dL_load_19 (by have h9 := Option.some.inj h; subst h9; rfl) (Nat.le_of_ble_eq_true rfl) (Nat.le_of_ble_eq_true rfl)
abbrev rm_L_keep : Room := { frames := 8, cells := 1, slots := 6, locals := 131 }

set_option maxHeartbeats 4000000 in
set_option maxRecDepth 100000 in
theorem cL_keep_ok (M : Mem) (a0 : Option Nat) (a1 : Int32) (a2 : Option Nat) (r0 : Mem × Int32) (h : fL_keep M a0 a1 a2 = some r0) : ∀ l : Launch, l.stackTraces = false → ConW l yL_keep cL_keep 4 (some .int) [(0, 9, 12, 15)] rm_L_keep [rf a0, .int a1, rf a2] M (r0.1, Sum.inr (some (Value.int r0.2))) := by
  intro l hst
  refine ConW.enter hst (own := RL) (by decide +kernel) rfl (by exact Nat.le_of_ble_eq_true rfl) (lv0 := [(0, rf a0), (1, .int a1), (2, rf a2)]) (rfl) (fun C hC htab => ?_)
  unfold fL_keep at h
  refine J_aload_n (j := 2) hC dL_keep_0 rfl ?_
  refine J_iconst (v := 0) hC dL_keep_1 (by decide) ?_
  refine J_aload_n (j := 0) hC dL_keep_2 rfl ?_
  refine J_iload_n (j := 1) hC dL_keep_3 rfl ?_
  refine ck_c h (fun ho h => ?_)
  refine bnd_c h (fun w1 hw h => ?_)
  refine thrE_c h (fun E hE h => ?_) (fun v2 hv h => ?_)
  · refine ite_c h (fun c9 h => ?_) (fun c9 h => ?_)
    · subst c9
      refine J_catchV (E := "java/lang/IllegalArgumentException") (name := "java/lang/IllegalArgumentException") (hh := [(0, 9, 12, 15)]) (As := [.int a1]) (M' := w1.1) (st := [.int 0, rf a2]) [] (0, 9, 12, 15) [] hC htab rfl (fun z hz => absurd hz List.not_mem_nil) (by decide) (by decide) k_L_15 (fun U h => h.1.1) (fun l hl => by have h9 := cX2_keep_ok M a0 a1 _ hw l hl; rw [hE] at h9; exact h9) vm_X2_keep k_L_39 ho ⟨rfl, rfl⟩ rfl ⟨Nat.le_of_ble_eq_true rfl, Nat.le_of_ble_eq_true rfl⟩ (Nat.le_of_ble_eq_true rfl) ⟨Nat.le_of_ble_eq_true rfl, Nat.le_of_ble_eq_true rfl⟩ dL_keep_4 rfl (fun q => ?_)
      refine J_astoreQ_n (i := 3) (lv' := [(3, .ref q), (0, rf a0), (1, .int a1), (2, rf a2)]) rfl hC dL_keep_12 (by decide) rfl ?_
      refine J_iconst (v := 1) hC dL_keep_13 (by decide) ?_
      exact J_iret hC dL_keep_14 (by have h9 := Option.some.inj h; subst h9; rfl) (Nat.le_of_ble_eq_true rfl) (Nat.le_of_ble_eq_true rfl)
    · cases h
  · refine J_callVX (As := [.int a1]) (M' := w1.1) (rv := some (Value.int v2)) (st := [.int 0, rf a2]) hC (fun l hl => by have h9 := cX2_keep_ok M a0 a1 _ hw l hl; rw [hv] at h9; exact h9) vm_X2_keep k_L_39 ho ⟨rfl, rfl⟩ rfl ⟨Nat.le_of_ble_eq_true rfl, Nat.le_of_ble_eq_true rfl⟩ (Nat.le_of_ble_eq_true rfl) ⟨Nat.le_of_ble_eq_true rfl, Nat.le_of_ble_eq_true rfl⟩ dL_keep_4 rfl ?_
    refine J_i2l hC dL_keep_7 ?_
    refine J_last hC dL_keep_8 h (fun M3 _ h => ?_)
    refine J_goto (tgt := 15) hC dL_keep_9 (by decide) ?_
    refine J_iconst (v := 0) hC dL_keep_15 (by decide) ?_
    exact J_iret hC dL_keep_16 (by have h9 := Option.some.inj h; subst h9; rfl) (Nat.le_of_ble_eq_true rfl) (Nat.le_of_ble_eq_true rfl)
abbrev rm_L_goBack : Room := { frames := 8, cells := 2, slots := 12, locals := 131 }

set_option maxHeartbeats 4000000 in
set_option maxRecDepth 100000 in
theorem cL_goBack_ok (M : Mem) (a0 : Option Nat) (a1 : Int32) (a2 : Option Nat) (r0 : Mem × Int32) (h : fL_goBack M a0 a1 a2 = some r0) : ∀ l : Launch, l.stackTraces = false → ConW l yL_goBack cL_goBack 4 (some .int) [(0, 9, 12, 15), (0, 9, 15, 34)] rm_L_goBack [rf a0, .int a1, rf a2] M (r0.1, Sum.inr (some (Value.int r0.2))) := by
  intro l hst
  refine ConW.enter hst (own := RL) (by decide +kernel) rfl (by exact Nat.le_of_ble_eq_true rfl) (lv0 := [(0, rf a0), (1, .int a1), (2, rf a2)]) (rfl) (fun C hC htab => ?_)
  unfold fL_goBack at h
  refine J_aload_n (j := 2) hC dL_goBack_0 rfl ?_
  refine J_iconst (v := 0) hC dL_goBack_1 (by decide) ?_
  refine J_aload_n (j := 0) hC dL_goBack_2 rfl ?_
  refine J_iload_n (j := 1) hC dL_goBack_3 rfl ?_
  refine ck_c h (fun ho h => ?_)
  refine bnd_c h (fun w1 hw h => ?_)
  refine thrE_c h (fun E hE h => ?_) (fun v2 hv h => ?_)
  · refine ite_c h (fun c9 h => ?_) (fun c9 h => ?_)
    · subst c9
      refine J_catchV (E := "java/lang/IllegalArgumentException") (name := "java/lang/IllegalArgumentException") (hh := [(0, 9, 12, 15), (0, 9, 15, 34)]) (As := [.int a1]) (M' := w1.1) (st := [.int 0, rf a2]) [] (0, 9, 12, 15) [(0, 9, 15, 34)] hC htab rfl (fun z hz => absurd hz List.not_mem_nil) (by decide) (by decide) k_L_15 (fun U h => h.1.1) (fun l hl => by have h9 := cX2_goBack_ok M a0 a1 _ hw l hl; rw [hE] at h9; exact h9) vm_X2_goBack k_L_42 ho ⟨rfl, rfl⟩ rfl ⟨Nat.le_of_ble_eq_true rfl, Nat.le_of_ble_eq_true rfl⟩ (Nat.le_of_ble_eq_true rfl) ⟨Nat.le_of_ble_eq_true rfl, Nat.le_of_ble_eq_true rfl⟩ dL_goBack_4 rfl (fun q => ?_)
      refine J_astoreQ_n (i := 3) (lv' := [(3, .ref q), (0, rf a0), (1, .int a1), (2, rf a2)]) rfl hC dL_goBack_12 (by decide) rfl ?_
      refine J_iconst (v := 1) hC dL_goBack_13 (by decide) ?_
      exact J_iret hC dL_goBack_14 (by have h9 := Option.some.inj h; subst h9; rfl) (Nat.le_of_ble_eq_true rfl) (Nat.le_of_ble_eq_true rfl)
    · refine ite_c h (fun c9 h => ?_) (fun c9 h => ?_)
      · subst c9
        refine J_catchV (E := "java/lang/IllegalStateException") (name := "java/lang/IllegalStateException") (hh := [(0, 9, 12, 15), (0, 9, 15, 34)]) (As := [.int a1]) (M' := w1.1) (st := [.int 0, rf a2]) [(0, 9, 12, 15)] (0, 9, 15, 34) [] hC htab rfl (fun z hz => by rw [List.mem_singleton.mp hz]; exact ⟨by decide, "java/lang/IllegalArgumentException", k_L_15, fun U h => h.2⟩) (by decide) (by decide) k_L_34 (fun U h => h.1.2.2) (fun l hl => by have h9 := cX2_goBack_ok M a0 a1 _ hw l hl; rw [hE] at h9; exact h9) vm_X2_goBack k_L_42 ho ⟨rfl, rfl⟩ rfl ⟨Nat.le_of_ble_eq_true rfl, Nat.le_of_ble_eq_true rfl⟩ (Nat.le_of_ble_eq_true rfl) ⟨Nat.le_of_ble_eq_true rfl, Nat.le_of_ble_eq_true rfl⟩ dL_goBack_4 rfl (fun q => ?_)
        refine J_astoreQ_n (i := 3) (lv' := [(3, .ref q), (0, rf a0), (1, .int a1), (2, rf a2)]) rfl hC dL_goBack_15 (by decide) rfl ?_
        refine J_iconst (v := 2) hC dL_goBack_16 (by decide) ?_
        exact J_iret hC dL_goBack_17 (by have h9 := Option.some.inj h; subst h9; rfl) (Nat.le_of_ble_eq_true rfl) (Nat.le_of_ble_eq_true rfl)
      · cases h
  · refine J_callVX (As := [.int a1]) (M' := w1.1) (rv := some (Value.int v2)) (st := [.int 0, rf a2]) hC (fun l hl => by have h9 := cX2_goBack_ok M a0 a1 _ hw l hl; rw [hv] at h9; exact h9) vm_X2_goBack k_L_42 ho ⟨rfl, rfl⟩ rfl ⟨Nat.le_of_ble_eq_true rfl, Nat.le_of_ble_eq_true rfl⟩ (Nat.le_of_ble_eq_true rfl) ⟨Nat.le_of_ble_eq_true rfl, Nat.le_of_ble_eq_true rfl⟩ dL_goBack_4 rfl ?_
    refine J_i2l hC dL_goBack_7 ?_
    refine J_last hC dL_goBack_8 h (fun M3 _ h => ?_)
    refine J_goto (tgt := 18) hC dL_goBack_9 (by decide) ?_
    refine J_iconst (v := 0) hC dL_goBack_18 (by decide) ?_
    exact J_iret hC dL_goBack_19 (by have h9 := Option.some.inj h; subst h9; rfl) (Nat.le_of_ble_eq_true rfl) (Nat.le_of_ble_eq_true rfl)
abbrev rm_L_undo : Room := { frames := 7, cells := 1, slots := 6, locals := 110 }

set_option maxHeartbeats 4000000 in
set_option maxRecDepth 100000 in
theorem cL_undo_ok (M : Mem) (a0 : Option Nat) (a1 : Option Nat) (r0 : Mem × Int32) (h : fL_undo M a0 a1 = some r0) : ∀ l : Launch, l.stackTraces = false → ConW l yL_undo cL_undo 3 (some .int) [(0, 8, 11, 34)] rm_L_undo [rf a0, rf a1] M (r0.1, Sum.inr (some (Value.int r0.2))) := by
  intro l hst
  refine ConW.enter hst (own := RL) (by decide +kernel) rfl (by exact Nat.le_of_ble_eq_true rfl) (lv0 := [(0, rf a0), (1, rf a1)]) (rfl) (fun C hC htab => ?_)
  unfold fL_undo at h
  refine J_aload_n (j := 1) hC dL_undo_0 rfl ?_
  refine J_iconst (v := 0) hC dL_undo_1 (by decide) ?_
  refine J_aload_n (j := 0) hC dL_undo_2 rfl ?_
  refine ck_c h (fun ho h => ?_)
  refine bnd_c h (fun w1 hw h => ?_)
  refine thrE_c h (fun E hE h => ?_) (fun v2 hv h => ?_)
  · refine ite_c h (fun c9 h => ?_) (fun c9 h => ?_)
    · subst c9
      refine J_catchV (E := "java/lang/IllegalStateException") (name := "java/lang/IllegalStateException") (hh := [(0, 8, 11, 34)]) (As := []) (M' := w1.1) (st := [.int 0, rf a1]) [] (0, 8, 11, 34) [] hC htab rfl (fun z hz => absurd hz List.not_mem_nil) (by decide) (by decide) k_L_34 (fun U h => h.1.2.2) (fun l hl => by have h9 := cX2_undo_ok M a0 _ hw l hl; rw [hE] at h9; exact h9) vm_X2_undo k_L_45 ho ⟨rfl, rfl⟩ rfl ⟨Nat.le_of_ble_eq_true rfl, Nat.le_of_ble_eq_true rfl⟩ (Nat.le_of_ble_eq_true rfl) ⟨Nat.le_of_ble_eq_true rfl, Nat.le_of_ble_eq_true rfl⟩ dL_undo_3 rfl (fun q => ?_)
      refine J_astoreQ_n (i := 2) (lv' := [(2, .ref q), (0, rf a0), (1, rf a1)]) rfl hC dL_undo_11 (by decide) rfl ?_
      refine J_iconst (v := 1) hC dL_undo_12 (by decide) ?_
      exact J_iret hC dL_undo_13 (by have h9 := Option.some.inj h; subst h9; rfl) (Nat.le_of_ble_eq_true rfl) (Nat.le_of_ble_eq_true rfl)
    · cases h
  · refine J_callVX (As := []) (M' := w1.1) (rv := some (Value.int v2)) (st := [.int 0, rf a1]) hC (fun l hl => by have h9 := cX2_undo_ok M a0 _ hw l hl; rw [hv] at h9; exact h9) vm_X2_undo k_L_45 ho ⟨rfl, rfl⟩ rfl ⟨Nat.le_of_ble_eq_true rfl, Nat.le_of_ble_eq_true rfl⟩ (Nat.le_of_ble_eq_true rfl) ⟨Nat.le_of_ble_eq_true rfl, Nat.le_of_ble_eq_true rfl⟩ dL_undo_3 rfl ?_
    refine J_i2l hC dL_undo_6 ?_
    refine J_last hC dL_undo_7 h (fun M3 _ h => ?_)
    refine J_goto (tgt := 14) hC dL_undo_8 (by decide) ?_
    refine J_iconst (v := 0) hC dL_undo_14 (by decide) ?_
    exact J_iret hC dL_undo_15 (by have h9 := Option.some.inj h; subst h9; rfl) (Nat.le_of_ble_eq_true rfl) (Nat.le_of_ble_eq_true rfl)
abbrev rm_L_sign : Room := { frames := 8, cells := 2, slots := 12, locals := 132 }

set_option maxHeartbeats 4000000 in
set_option maxRecDepth 100000 in
theorem cL_sign_ok (M : Mem) (a0 : Option Nat) (a1 : Int32) (a2 : Int32) (a3 : Option Nat) (r0 : Mem × Int32) (h : fL_sign M a0 a1 a2 a3 = some r0) : ∀ l : Launch, l.stackTraces = false → ConW l yL_sign cL_sign 5 (some .int) [(0, 10, 13, 13), (0, 10, 17, 15)] rm_L_sign [rf a0, .int a1, .int a2, rf a3] M (r0.1, Sum.inr (some (Value.int r0.2))) := by
  intro l hst
  refine ConW.enter hst (own := RL) (by decide +kernel) rfl (by exact Nat.le_of_ble_eq_true rfl) (lv0 := [(0, rf a0), (1, .int a1), (2, .int a2), (3, rf a3)]) (rfl) (fun C hC htab => ?_)
  unfold fL_sign at h
  refine J_aload_n (j := 3) hC dL_sign_0 rfl ?_
  refine J_iconst (v := 0) hC dL_sign_1 (by decide) ?_
  refine J_aload_n (j := 0) hC dL_sign_2 rfl ?_
  refine J_iload_n (j := 1) hC dL_sign_3 rfl ?_
  refine J_iload_n (j := 2) hC dL_sign_4 rfl ?_
  refine ck_c h (fun ho h => ?_)
  refine bnd_c h (fun w1 hw h => ?_)
  refine thrE_c h (fun E hE h => ?_) (fun v2 hv h => ?_)
  · refine ite_c h (fun c9 h => ?_) (fun c9 h => ?_)
    · subst c9
      refine J_catchV (E := "java/lang/IndexOutOfBoundsException") (name := "java/lang/IndexOutOfBoundsException") (hh := [(0, 10, 13, 13), (0, 10, 17, 15)]) (As := [.int a1, .int a2]) (M' := M) (st := [.int 0, rf a3]) [] (0, 10, 13, 13) [(0, 10, 17, 15)] hC htab rfl (fun z hz => absurd hz List.not_mem_nil) (by decide) (by decide) k_L_13 (fun U h => h.1.2.1) (fun l hl => by have h9 := cX2_sign_ok M a0 a1 a2 _ hw l hl; rw [hE] at h9; exact h9) vm_X2_sign k_L_49 ho ⟨rfl, rfl⟩ rfl ⟨Nat.le_of_ble_eq_true rfl, Nat.le_of_ble_eq_true rfl⟩ (Nat.le_of_ble_eq_true rfl) ⟨Nat.le_of_ble_eq_true rfl, Nat.le_of_ble_eq_true rfl⟩ dL_sign_5 rfl (fun q => ?_)
      refine J_astoreQ (lv' := [(4, .ref q), (0, rf a0), (1, .int a1), (2, .int a2), (3, rf a3)]) hC dL_sign_13 (by decide) rfl ?_
      refine J_iconst (v := 1) hC dL_sign_15 (by decide) ?_
      exact J_iret hC dL_sign_16 (by have h9 := Option.some.inj h; subst h9; rfl) (Nat.le_of_ble_eq_true rfl) (Nat.le_of_ble_eq_true rfl)
    · refine ite_c h (fun c9 h => ?_) (fun c9 h => ?_)
      · subst c9
        refine J_catchV (E := "java/lang/IllegalArgumentException") (name := "java/lang/IllegalArgumentException") (hh := [(0, 10, 13, 13), (0, 10, 17, 15)]) (As := [.int a1, .int a2]) (M' := M) (st := [.int 0, rf a3]) [(0, 10, 13, 13)] (0, 10, 17, 15) [] hC htab rfl (fun z hz => by rw [List.mem_singleton.mp hz]; exact ⟨by decide, "java/lang/IndexOutOfBoundsException", k_L_13, fun U h => h.1⟩) (by decide) (by decide) k_L_15 (fun U h => h.1.1) (fun l hl => by have h9 := cX2_sign_ok M a0 a1 a2 _ hw l hl; rw [hE] at h9; exact h9) vm_X2_sign k_L_49 ho ⟨rfl, rfl⟩ rfl ⟨Nat.le_of_ble_eq_true rfl, Nat.le_of_ble_eq_true rfl⟩ (Nat.le_of_ble_eq_true rfl) ⟨Nat.le_of_ble_eq_true rfl, Nat.le_of_ble_eq_true rfl⟩ dL_sign_5 rfl (fun q => ?_)
        refine J_astoreQ (lv' := [(4, .ref q), (0, rf a0), (1, .int a1), (2, .int a2), (3, rf a3)]) hC dL_sign_17 (by decide) rfl ?_
        refine J_iconst (v := 2) hC dL_sign_19 (by decide) ?_
        exact J_iret hC dL_sign_20 (by have h9 := Option.some.inj h; subst h9; rfl) (Nat.le_of_ble_eq_true rfl) (Nat.le_of_ble_eq_true rfl)
      · cases h
  · refine J_callVX (As := [.int a1, .int a2]) (M' := M) (rv := some (Value.int v2)) (st := [.int 0, rf a3]) hC (fun l hl => by have h9 := cX2_sign_ok M a0 a1 a2 _ hw l hl; rw [hv] at h9; exact h9) vm_X2_sign k_L_49 ho ⟨rfl, rfl⟩ rfl ⟨Nat.le_of_ble_eq_true rfl, Nat.le_of_ble_eq_true rfl⟩ (Nat.le_of_ble_eq_true rfl) ⟨Nat.le_of_ble_eq_true rfl, Nat.le_of_ble_eq_true rfl⟩ dL_sign_5 rfl ?_
    refine J_i2l hC dL_sign_8 ?_
    refine J_last hC dL_sign_9 h (fun M3 _ h => ?_)
    refine J_goto (tgt := 21) hC dL_sign_10 (by decide) ?_
    refine J_iconst (v := 0) hC dL_sign_21 (by decide) ?_
    exact J_iret hC dL_sign_22 (by have h9 := Option.some.inj h; subst h9; rfl) (Nat.le_of_ble_eq_true rfl) (Nat.le_of_ble_eq_true rfl)
abbrev rm_L_of : Room := { frames := 8, cells := 2, slots := 12, locals := 134 }

set_option maxHeartbeats 4000000 in
set_option maxRecDepth 100000 in
theorem cL_of_ok (M : Mem) (a0 : Option Nat) (a1 : Int32) (a2 : Int32) (a3 : Option Nat) (r0 : Mem × Int32) (h : fL_of M a0 a1 a2 a3 = some r0) : ∀ l : Launch, l.stackTraces = false → ConW l yL_of cL_of 5 (some .int) [(0, 10, 13, 13), (0, 10, 17, 15)] rm_L_of [rf a0, .int a1, .int a2, rf a3] M (r0.1, Sum.inr (some (Value.int r0.2))) := by
  intro l hst
  refine ConW.enter hst (own := RL) (by decide +kernel) rfl (by exact Nat.le_of_ble_eq_true rfl) (lv0 := [(0, rf a0), (1, .int a1), (2, .int a2), (3, rf a3)]) (rfl) (fun C hC htab => ?_)
  unfold fL_of at h
  refine J_aload_n (j := 3) hC dL_of_0 rfl ?_
  refine J_iconst (v := 0) hC dL_of_1 (by decide) ?_
  refine J_aload_n (j := 0) hC dL_of_2 rfl ?_
  refine J_iload_n (j := 1) hC dL_of_3 rfl ?_
  refine J_iload_n (j := 2) hC dL_of_4 rfl ?_
  refine ck_c h (fun ho h => ?_)
  refine bnd_c h (fun w1 hw h => ?_)
  refine thrE_c h (fun E hE h => ?_) (fun v2 hv h => ?_)
  · refine ite_c h (fun c9 h => ?_) (fun c9 h => ?_)
    · subst c9
      refine J_catchV (E := "java/lang/IndexOutOfBoundsException") (name := "java/lang/IndexOutOfBoundsException") (hh := [(0, 10, 13, 13), (0, 10, 17, 15)]) (As := [.int a1, .int a2]) (M' := M) (st := [.int 0, rf a3]) [] (0, 10, 13, 13) [(0, 10, 17, 15)] hC htab rfl (fun z hz => absurd hz List.not_mem_nil) (by decide) (by decide) k_L_13 (fun U h => h.1.2.1) (fun l hl => by have h9 := cX2_of_ok M a0 a1 a2 _ hw l hl; rw [hE] at h9; exact h9) vm_X2_of k_L_52 ho ⟨rfl, rfl⟩ rfl ⟨Nat.le_of_ble_eq_true rfl, Nat.le_of_ble_eq_true rfl⟩ (Nat.le_of_ble_eq_true rfl) ⟨Nat.le_of_ble_eq_true rfl, Nat.le_of_ble_eq_true rfl⟩ dL_of_5 rfl (fun q => ?_)
      refine J_astoreQ (lv' := [(4, .ref q), (0, rf a0), (1, .int a1), (2, .int a2), (3, rf a3)]) hC dL_of_13 (by decide) rfl ?_
      refine J_iconst (v := 1) hC dL_of_15 (by decide) ?_
      exact J_iret hC dL_of_16 (by have h9 := Option.some.inj h; subst h9; rfl) (Nat.le_of_ble_eq_true rfl) (Nat.le_of_ble_eq_true rfl)
    · refine ite_c h (fun c9 h => ?_) (fun c9 h => ?_)
      · subst c9
        refine J_catchV (E := "java/lang/IllegalArgumentException") (name := "java/lang/IllegalArgumentException") (hh := [(0, 10, 13, 13), (0, 10, 17, 15)]) (As := [.int a1, .int a2]) (M' := M) (st := [.int 0, rf a3]) [(0, 10, 13, 13)] (0, 10, 17, 15) [] hC htab rfl (fun z hz => by rw [List.mem_singleton.mp hz]; exact ⟨by decide, "java/lang/IndexOutOfBoundsException", k_L_13, fun U h => h.1⟩) (by decide) (by decide) k_L_15 (fun U h => h.1.1) (fun l hl => by have h9 := cX2_of_ok M a0 a1 a2 _ hw l hl; rw [hE] at h9; exact h9) vm_X2_of k_L_52 ho ⟨rfl, rfl⟩ rfl ⟨Nat.le_of_ble_eq_true rfl, Nat.le_of_ble_eq_true rfl⟩ (Nat.le_of_ble_eq_true rfl) ⟨Nat.le_of_ble_eq_true rfl, Nat.le_of_ble_eq_true rfl⟩ dL_of_5 rfl (fun q => ?_)
        refine J_astoreQ (lv' := [(4, .ref q), (0, rf a0), (1, .int a1), (2, .int a2), (3, rf a3)]) hC dL_of_17 (by decide) rfl ?_
        refine J_iconst (v := 2) hC dL_of_19 (by decide) ?_
        exact J_iret hC dL_of_20 (by have h9 := Option.some.inj h; subst h9; rfl) (Nat.le_of_ble_eq_true rfl) (Nat.le_of_ble_eq_true rfl)
      · cases h
  · refine J_callVX (As := [.int a1, .int a2]) (M' := M) (rv := some (Value.int v2)) (st := [.int 0, rf a3]) hC (fun l hl => by have h9 := cX2_of_ok M a0 a1 a2 _ hw l hl; rw [hv] at h9; exact h9) vm_X2_of k_L_52 ho ⟨rfl, rfl⟩ rfl ⟨Nat.le_of_ble_eq_true rfl, Nat.le_of_ble_eq_true rfl⟩ (Nat.le_of_ble_eq_true rfl) ⟨Nat.le_of_ble_eq_true rfl, Nat.le_of_ble_eq_true rfl⟩ dL_of_5 rfl ?_
    refine J_i2l hC dL_of_8 ?_
    refine J_last hC dL_of_9 h (fun M3 _ h => ?_)
    refine J_goto (tgt := 21) hC dL_of_10 (by decide) ?_
    refine J_iconst (v := 0) hC dL_of_21 (by decide) ?_
    exact J_iret hC dL_of_22 (by have h9 := Option.some.inj h; subst h9; rfl) (Nat.le_of_ble_eq_true rfl) (Nat.le_of_ble_eq_true rfl)
abbrev rm_L_isRoot : Room := { frames := 8, cells := 2, slots := 12, locals := 132 }

set_option maxHeartbeats 4000000 in
set_option maxRecDepth 100000 in
theorem cL_isRoot_ok (M : Mem) (a0 : Option Nat) (a1 : Int32) (a2 : Int32) (a3 : Option Nat) (r0 : Mem × Int32) (h : fL_isRoot M a0 a1 a2 a3 = some r0) : ∀ l : Launch, l.stackTraces = false → ConW l yL_isRoot cL_isRoot 5 (some .int) [(0, 10, 13, 13), (0, 10, 17, 15)] rm_L_isRoot [rf a0, .int a1, .int a2, rf a3] M (r0.1, Sum.inr (some (Value.int r0.2))) := by
  intro l hst
  refine ConW.enter hst (own := RL) (by decide +kernel) rfl (by exact Nat.le_of_ble_eq_true rfl) (lv0 := [(0, rf a0), (1, .int a1), (2, .int a2), (3, rf a3)]) (rfl) (fun C hC htab => ?_)
  unfold fL_isRoot at h
  refine J_aload_n (j := 3) hC dL_isRoot_0 rfl ?_
  refine J_iconst (v := 0) hC dL_isRoot_1 (by decide) ?_
  refine J_aload_n (j := 0) hC dL_isRoot_2 rfl ?_
  refine J_iload_n (j := 1) hC dL_isRoot_3 rfl ?_
  refine J_iload_n (j := 2) hC dL_isRoot_4 rfl ?_
  refine ck_c h (fun ho h => ?_)
  refine bnd_c h (fun w1 hw h => ?_)
  refine thrE_c h (fun E hE h => ?_) (fun v2 hv h => ?_)
  · refine ite_c h (fun c9 h => ?_) (fun c9 h => ?_)
    · subst c9
      refine J_catchV (E := "java/lang/IndexOutOfBoundsException") (name := "java/lang/IndexOutOfBoundsException") (hh := [(0, 10, 13, 13), (0, 10, 17, 15)]) (As := [.int a1, .int a2]) (M' := M) (st := [.int 0, rf a3]) [] (0, 10, 13, 13) [(0, 10, 17, 15)] hC htab rfl (fun z hz => absurd hz List.not_mem_nil) (by decide) (by decide) k_L_13 (fun U h => h.1.2.1) (fun l hl => by have h9 := cX2_isRoot_ok M a0 a1 a2 _ hw l hl; rw [hE] at h9; exact h9) vm_X2_isRoot k_L_55 ho ⟨rfl, rfl⟩ rfl ⟨Nat.le_of_ble_eq_true rfl, Nat.le_of_ble_eq_true rfl⟩ (Nat.le_of_ble_eq_true rfl) ⟨Nat.le_of_ble_eq_true rfl, Nat.le_of_ble_eq_true rfl⟩ dL_isRoot_5 rfl (fun q => ?_)
      refine J_astoreQ (lv' := [(4, .ref q), (0, rf a0), (1, .int a1), (2, .int a2), (3, rf a3)]) hC dL_isRoot_13 (by decide) rfl ?_
      refine J_iconst (v := 1) hC dL_isRoot_15 (by decide) ?_
      exact J_iret hC dL_isRoot_16 (by have h9 := Option.some.inj h; subst h9; rfl) (Nat.le_of_ble_eq_true rfl) (Nat.le_of_ble_eq_true rfl)
    · refine ite_c h (fun c9 h => ?_) (fun c9 h => ?_)
      · subst c9
        refine J_catchV (E := "java/lang/IllegalArgumentException") (name := "java/lang/IllegalArgumentException") (hh := [(0, 10, 13, 13), (0, 10, 17, 15)]) (As := [.int a1, .int a2]) (M' := M) (st := [.int 0, rf a3]) [(0, 10, 13, 13)] (0, 10, 17, 15) [] hC htab rfl (fun z hz => by rw [List.mem_singleton.mp hz]; exact ⟨by decide, "java/lang/IndexOutOfBoundsException", k_L_13, fun U h => h.1⟩) (by decide) (by decide) k_L_15 (fun U h => h.1.1) (fun l hl => by have h9 := cX2_isRoot_ok M a0 a1 a2 _ hw l hl; rw [hE] at h9; exact h9) vm_X2_isRoot k_L_55 ho ⟨rfl, rfl⟩ rfl ⟨Nat.le_of_ble_eq_true rfl, Nat.le_of_ble_eq_true rfl⟩ (Nat.le_of_ble_eq_true rfl) ⟨Nat.le_of_ble_eq_true rfl, Nat.le_of_ble_eq_true rfl⟩ dL_isRoot_5 rfl (fun q => ?_)
        refine J_astoreQ (lv' := [(4, .ref q), (0, rf a0), (1, .int a1), (2, .int a2), (3, rf a3)]) hC dL_isRoot_17 (by decide) rfl ?_
        refine J_iconst (v := 2) hC dL_isRoot_19 (by decide) ?_
        exact J_iret hC dL_isRoot_20 (by have h9 := Option.some.inj h; subst h9; rfl) (Nat.le_of_ble_eq_true rfl) (Nat.le_of_ble_eq_true rfl)
      · cases h
  · refine J_callVX (As := [.int a1, .int a2]) (M' := M) (rv := some (Value.int v2)) (st := [.int 0, rf a3]) hC (fun l hl => by have h9 := cX2_isRoot_ok M a0 a1 a2 _ hw l hl; rw [hv] at h9; exact h9) vm_X2_isRoot k_L_55 ho ⟨rfl, rfl⟩ rfl ⟨Nat.le_of_ble_eq_true rfl, Nat.le_of_ble_eq_true rfl⟩ (Nat.le_of_ble_eq_true rfl) ⟨Nat.le_of_ble_eq_true rfl, Nat.le_of_ble_eq_true rfl⟩ dL_isRoot_5 rfl ?_
    refine J_i2l hC dL_isRoot_8 ?_
    refine J_last hC dL_isRoot_9 h (fun M3 _ h => ?_)
    refine J_goto (tgt := 21) hC dL_isRoot_10 (by decide) ?_
    refine J_iconst (v := 0) hC dL_isRoot_21 (by decide) ?_
    exact J_iret hC dL_isRoot_22 (by have h9 := Option.some.inj h; subst h9; rfl) (Nat.le_of_ble_eq_true rfl) (Nat.le_of_ble_eq_true rfl)
abbrev rm_L_times : Room := { frames := 18, cells := 3, slots := 18, locals := 487 }

set_option maxHeartbeats 4000000 in
set_option maxRecDepth 100000 in
theorem cL_times_ok (M : Mem) (a0 : Option Nat) (a1 : Int32) (a2 : Int32) (a3 : Int32) (a4 : Option Nat) (r0 : Mem × Int32) (h : fL_times M a0 a1 a2 a3 a4 = some r0) : ∀ l : Launch, l.stackTraces = false → ConW l yL_times cL_times 6 (some .int) [(0, 12, 15, 13), (0, 12, 19, 15)] rm_L_times [rf a0, .int a1, .int a2, .int a3, rf a4] M (r0.1, Sum.inr (some (Value.int r0.2))) := by
  intro l hst
  refine ConW.enter hst (own := RL) (by decide +kernel) rfl (by exact Nat.le_of_ble_eq_true rfl) (lv0 := [(0, rf a0), (1, .int a1), (2, .int a2), (3, .int a3), (4, rf a4)]) (rfl) (fun C hC htab => ?_)
  unfold fL_times at h
  refine J_aload (j := 4) hC dL_times_0 rfl ?_
  refine J_iconst (v := 0) hC dL_times_2 (by decide) ?_
  refine J_aload_n (j := 0) hC dL_times_3 rfl ?_
  refine J_iload_n (j := 1) hC dL_times_4 rfl ?_
  refine J_iload_n (j := 2) hC dL_times_5 rfl ?_
  refine J_iload_n (j := 3) hC dL_times_6 rfl ?_
  refine ck_c h (fun ho h => ?_)
  refine bnd_c h (fun w1 hw h => ?_)
  refine thrE_c h (fun E hE h => ?_) (fun v2 hv h => ?_)
  · refine ite_c h (fun c9 h => ?_) (fun c9 h => ?_)
    · subst c9
      refine J_catchV (E := "java/lang/IndexOutOfBoundsException") (name := "java/lang/IndexOutOfBoundsException") (hh := [(0, 12, 15, 13), (0, 12, 19, 15)]) (As := [.int a1, .int a2, .int a3]) (M' := w1.1) (st := [.int 0, rf a4]) [] (0, 12, 15, 13) [(0, 12, 19, 15)] hC htab rfl (fun z hz => absurd hz List.not_mem_nil) (by decide) (by decide) k_L_13 (fun U h => h.1.2.1) (fun l hl => by have h9 := cX2_times_ok M a0 a1 a2 a3 _ hw l hl; rw [hE] at h9; exact h9) vm_X2_times k_L_58 ho ⟨rfl, rfl⟩ rfl ⟨Nat.le_of_ble_eq_true rfl, Nat.le_of_ble_eq_true rfl⟩ (Nat.le_of_ble_eq_true rfl) ⟨Nat.le_of_ble_eq_true rfl, Nat.le_of_ble_eq_true rfl⟩ dL_times_7 rfl (fun q => ?_)
      refine J_astoreQ (lv' := [(5, .ref q), (0, rf a0), (1, .int a1), (2, .int a2), (3, .int a3), (4, rf a4)]) hC dL_times_15 (by decide) rfl ?_
      refine J_iconst (v := 1) hC dL_times_17 (by decide) ?_
      exact J_iret hC dL_times_18 (by have h9 := Option.some.inj h; subst h9; rfl) (Nat.le_of_ble_eq_true rfl) (Nat.le_of_ble_eq_true rfl)
    · refine ite_c h (fun c9 h => ?_) (fun c9 h => ?_)
      · subst c9
        refine J_catchV (E := "java/lang/IllegalArgumentException") (name := "java/lang/IllegalArgumentException") (hh := [(0, 12, 15, 13), (0, 12, 19, 15)]) (As := [.int a1, .int a2, .int a3]) (M' := w1.1) (st := [.int 0, rf a4]) [(0, 12, 15, 13)] (0, 12, 19, 15) [] hC htab rfl (fun z hz => by rw [List.mem_singleton.mp hz]; exact ⟨by decide, "java/lang/IndexOutOfBoundsException", k_L_13, fun U h => h.1⟩) (by decide) (by decide) k_L_15 (fun U h => h.1.1) (fun l hl => by have h9 := cX2_times_ok M a0 a1 a2 a3 _ hw l hl; rw [hE] at h9; exact h9) vm_X2_times k_L_58 ho ⟨rfl, rfl⟩ rfl ⟨Nat.le_of_ble_eq_true rfl, Nat.le_of_ble_eq_true rfl⟩ (Nat.le_of_ble_eq_true rfl) ⟨Nat.le_of_ble_eq_true rfl, Nat.le_of_ble_eq_true rfl⟩ dL_times_7 rfl (fun q => ?_)
        refine J_astoreQ (lv' := [(5, .ref q), (0, rf a0), (1, .int a1), (2, .int a2), (3, .int a3), (4, rf a4)]) hC dL_times_19 (by decide) rfl ?_
        refine J_iconst (v := 2) hC dL_times_21 (by decide) ?_
        exact J_iret hC dL_times_22 (by have h9 := Option.some.inj h; subst h9; rfl) (Nat.le_of_ble_eq_true rfl) (Nat.le_of_ble_eq_true rfl)
      · cases h
  · refine J_callVX (As := [.int a1, .int a2, .int a3]) (M' := w1.1) (rv := some (Value.int v2)) (st := [.int 0, rf a4]) hC (fun l hl => by have h9 := cX2_times_ok M a0 a1 a2 a3 _ hw l hl; rw [hv] at h9; exact h9) vm_X2_times k_L_58 ho ⟨rfl, rfl⟩ rfl ⟨Nat.le_of_ble_eq_true rfl, Nat.le_of_ble_eq_true rfl⟩ (Nat.le_of_ble_eq_true rfl) ⟨Nat.le_of_ble_eq_true rfl, Nat.le_of_ble_eq_true rfl⟩ dL_times_7 rfl ?_
    refine J_i2l hC dL_times_10 ?_
    refine J_last hC dL_times_11 h (fun M3 _ h => ?_)
    refine J_goto (tgt := 23) hC dL_times_12 (by decide) ?_
    refine J_iconst (v := 0) hC dL_times_23 (by decide) ?_
    exact J_iret hC dL_times_24 (by have h9 := Option.some.inj h; subst h9; rfl) (Nat.le_of_ble_eq_true rfl) (Nat.le_of_ble_eq_true rfl)
abbrev rm_L_quotients : Room := { frames := 8, cells := 2, slots := 12, locals := 133 }

set_option maxHeartbeats 4000000 in
set_option maxRecDepth 100000 in
theorem cL_quotients_ok (M : Mem) (a0 : Option Nat) (a1 : Int32) (a2 : Int32) (a3 : Option Nat) (r0 : Mem × Int32) (h : fL_quotients M a0 a1 a2 a3 = some r0) : ∀ l : Launch, l.stackTraces = false → ConW l yL_quotients cL_quotients 5 (some .int) [(0, 10, 13, 13), (0, 10, 17, 15)] rm_L_quotients [rf a0, .int a1, .int a2, rf a3] M (r0.1, Sum.inr (some (Value.int r0.2))) := by
  intro l hst
  refine ConW.enter hst (own := RL) (by decide +kernel) rfl (by exact Nat.le_of_ble_eq_true rfl) (lv0 := [(0, rf a0), (1, .int a1), (2, .int a2), (3, rf a3)]) (rfl) (fun C hC htab => ?_)
  unfold fL_quotients at h
  refine J_aload_n (j := 3) hC dL_quotients_0 rfl ?_
  refine J_iconst (v := 0) hC dL_quotients_1 (by decide) ?_
  refine J_aload_n (j := 0) hC dL_quotients_2 rfl ?_
  refine J_iload_n (j := 1) hC dL_quotients_3 rfl ?_
  refine J_iload_n (j := 2) hC dL_quotients_4 rfl ?_
  refine ck_c h (fun ho h => ?_)
  refine bnd_c h (fun w1 hw h => ?_)
  refine thrE_c h (fun E hE h => ?_) (fun v2 hv h => ?_)
  · refine ite_c h (fun c9 h => ?_) (fun c9 h => ?_)
    · subst c9
      refine J_catchV (E := "java/lang/IndexOutOfBoundsException") (name := "java/lang/IndexOutOfBoundsException") (hh := [(0, 10, 13, 13), (0, 10, 17, 15)]) (As := [.int a1, .int a2]) (M' := w1.1) (st := [.int 0, rf a3]) [] (0, 10, 13, 13) [(0, 10, 17, 15)] hC htab rfl (fun z hz => absurd hz List.not_mem_nil) (by decide) (by decide) k_L_13 (fun U h => h.1.2.1) (fun l hl => by have h9 := cX2_quotients_ok M a0 a1 a2 _ hw l hl; rw [hE] at h9; exact h9) vm_X2_quotients k_L_61 ho ⟨rfl, rfl⟩ rfl ⟨Nat.le_of_ble_eq_true rfl, Nat.le_of_ble_eq_true rfl⟩ (Nat.le_of_ble_eq_true rfl) ⟨Nat.le_of_ble_eq_true rfl, Nat.le_of_ble_eq_true rfl⟩ dL_quotients_5 rfl (fun q => ?_)
      refine J_astoreQ (lv' := [(4, .ref q), (0, rf a0), (1, .int a1), (2, .int a2), (3, rf a3)]) hC dL_quotients_13 (by decide) rfl ?_
      refine J_iconst (v := 1) hC dL_quotients_15 (by decide) ?_
      exact J_iret hC dL_quotients_16 (by have h9 := Option.some.inj h; subst h9; rfl) (Nat.le_of_ble_eq_true rfl) (Nat.le_of_ble_eq_true rfl)
    · refine ite_c h (fun c9 h => ?_) (fun c9 h => ?_)
      · subst c9
        refine J_catchV (E := "java/lang/IllegalArgumentException") (name := "java/lang/IllegalArgumentException") (hh := [(0, 10, 13, 13), (0, 10, 17, 15)]) (As := [.int a1, .int a2]) (M' := w1.1) (st := [.int 0, rf a3]) [(0, 10, 13, 13)] (0, 10, 17, 15) [] hC htab rfl (fun z hz => by rw [List.mem_singleton.mp hz]; exact ⟨by decide, "java/lang/IndexOutOfBoundsException", k_L_13, fun U h => h.1⟩) (by decide) (by decide) k_L_15 (fun U h => h.1.1) (fun l hl => by have h9 := cX2_quotients_ok M a0 a1 a2 _ hw l hl; rw [hE] at h9; exact h9) vm_X2_quotients k_L_61 ho ⟨rfl, rfl⟩ rfl ⟨Nat.le_of_ble_eq_true rfl, Nat.le_of_ble_eq_true rfl⟩ (Nat.le_of_ble_eq_true rfl) ⟨Nat.le_of_ble_eq_true rfl, Nat.le_of_ble_eq_true rfl⟩ dL_quotients_5 rfl (fun q => ?_)
        refine J_astoreQ (lv' := [(4, .ref q), (0, rf a0), (1, .int a1), (2, .int a2), (3, rf a3)]) hC dL_quotients_17 (by decide) rfl ?_
        refine J_iconst (v := 2) hC dL_quotients_19 (by decide) ?_
        exact J_iret hC dL_quotients_20 (by have h9 := Option.some.inj h; subst h9; rfl) (Nat.le_of_ble_eq_true rfl) (Nat.le_of_ble_eq_true rfl)
      · cases h
  · refine J_callVX (As := [.int a1, .int a2]) (M' := w1.1) (rv := some (Value.int v2)) (st := [.int 0, rf a3]) hC (fun l hl => by have h9 := cX2_quotients_ok M a0 a1 a2 _ hw l hl; rw [hv] at h9; exact h9) vm_X2_quotients k_L_61 ho ⟨rfl, rfl⟩ rfl ⟨Nat.le_of_ble_eq_true rfl, Nat.le_of_ble_eq_true rfl⟩ (Nat.le_of_ble_eq_true rfl) ⟨Nat.le_of_ble_eq_true rfl, Nat.le_of_ble_eq_true rfl⟩ dL_quotients_5 rfl ?_
    refine J_i2l hC dL_quotients_8 ?_
    refine J_last hC dL_quotients_9 h (fun M3 _ h => ?_)
    refine J_goto (tgt := 21) hC dL_quotients_10 (by decide) ?_
    refine J_iconst (v := 0) hC dL_quotients_21 (by decide) ?_
    exact J_iret hC dL_quotients_22 (by have h9 := Option.some.inj h; subst h9; rfl) (Nat.le_of_ble_eq_true rfl) (Nat.le_of_ble_eq_true rfl)
abbrev rm_L_best : Room := { frames := 18, cells := 2, slots := 12, locals := 485 }

set_option maxHeartbeats 4000000 in
set_option maxRecDepth 100000 in
theorem cL_best_ok (M : Mem) (a0 : Option Nat) (a1 : Int32) (a2 : Int32) (a3 : Option Nat) (r0 : Mem × Int32) (h : fL_best M a0 a1 a2 a3 = some r0) : ∀ l : Launch, l.stackTraces = false → ConW l yL_best cL_best 5 (some .int) [(0, 10, 13, 13), (0, 10, 17, 15)] rm_L_best [rf a0, .int a1, .int a2, rf a3] M (r0.1, Sum.inr (some (Value.int r0.2))) := by
  intro l hst
  refine ConW.enter hst (own := RL) (by decide +kernel) rfl (by exact Nat.le_of_ble_eq_true rfl) (lv0 := [(0, rf a0), (1, .int a1), (2, .int a2), (3, rf a3)]) (rfl) (fun C hC htab => ?_)
  unfold fL_best at h
  refine J_aload_n (j := 3) hC dL_best_0 rfl ?_
  refine J_iconst (v := 0) hC dL_best_1 (by decide) ?_
  refine J_aload_n (j := 0) hC dL_best_2 rfl ?_
  refine J_iload_n (j := 1) hC dL_best_3 rfl ?_
  refine J_iload_n (j := 2) hC dL_best_4 rfl ?_
  refine ck_c h (fun ho h => ?_)
  refine bnd_c h (fun w1 hw h => ?_)
  refine thrE_c h (fun E hE h => ?_) (fun v2 hv h => ?_)
  · refine ite_c h (fun c9 h => ?_) (fun c9 h => ?_)
    · subst c9
      refine J_catchV (E := "java/lang/IndexOutOfBoundsException") (name := "java/lang/IndexOutOfBoundsException") (hh := [(0, 10, 13, 13), (0, 10, 17, 15)]) (As := [.int a1, .int a2]) (M' := w1.1) (st := [.int 0, rf a3]) [] (0, 10, 13, 13) [(0, 10, 17, 15)] hC htab rfl (fun z hz => absurd hz List.not_mem_nil) (by decide) (by decide) k_L_13 (fun U h => h.1.2.1) (fun l hl => by have h9 := cX2_best_ok M a0 a1 a2 _ hw l hl; rw [hE] at h9; exact h9) vm_X2_best k_L_64 ho ⟨rfl, rfl⟩ rfl ⟨Nat.le_of_ble_eq_true rfl, Nat.le_of_ble_eq_true rfl⟩ (Nat.le_of_ble_eq_true rfl) ⟨Nat.le_of_ble_eq_true rfl, Nat.le_of_ble_eq_true rfl⟩ dL_best_5 rfl (fun q => ?_)
      refine J_astoreQ (lv' := [(4, .ref q), (0, rf a0), (1, .int a1), (2, .int a2), (3, rf a3)]) hC dL_best_13 (by decide) rfl ?_
      refine J_iconst (v := 1) hC dL_best_15 (by decide) ?_
      exact J_iret hC dL_best_16 (by have h9 := Option.some.inj h; subst h9; rfl) (Nat.le_of_ble_eq_true rfl) (Nat.le_of_ble_eq_true rfl)
    · refine ite_c h (fun c9 h => ?_) (fun c9 h => ?_)
      · subst c9
        refine J_catchV (E := "java/lang/IllegalArgumentException") (name := "java/lang/IllegalArgumentException") (hh := [(0, 10, 13, 13), (0, 10, 17, 15)]) (As := [.int a1, .int a2]) (M' := w1.1) (st := [.int 0, rf a3]) [(0, 10, 13, 13)] (0, 10, 17, 15) [] hC htab rfl (fun z hz => by rw [List.mem_singleton.mp hz]; exact ⟨by decide, "java/lang/IndexOutOfBoundsException", k_L_13, fun U h => h.1⟩) (by decide) (by decide) k_L_15 (fun U h => h.1.1) (fun l hl => by have h9 := cX2_best_ok M a0 a1 a2 _ hw l hl; rw [hE] at h9; exact h9) vm_X2_best k_L_64 ho ⟨rfl, rfl⟩ rfl ⟨Nat.le_of_ble_eq_true rfl, Nat.le_of_ble_eq_true rfl⟩ (Nat.le_of_ble_eq_true rfl) ⟨Nat.le_of_ble_eq_true rfl, Nat.le_of_ble_eq_true rfl⟩ dL_best_5 rfl (fun q => ?_)
        refine J_astoreQ (lv' := [(4, .ref q), (0, rf a0), (1, .int a1), (2, .int a2), (3, rf a3)]) hC dL_best_17 (by decide) rfl ?_
        refine J_iconst (v := 2) hC dL_best_19 (by decide) ?_
        exact J_iret hC dL_best_20 (by have h9 := Option.some.inj h; subst h9; rfl) (Nat.le_of_ble_eq_true rfl) (Nat.le_of_ble_eq_true rfl)
      · cases h
  · refine J_callVX (As := [.int a1, .int a2]) (M' := w1.1) (rv := some (Value.int v2)) (st := [.int 0, rf a3]) hC (fun l hl => by have h9 := cX2_best_ok M a0 a1 a2 _ hw l hl; rw [hv] at h9; exact h9) vm_X2_best k_L_64 ho ⟨rfl, rfl⟩ rfl ⟨Nat.le_of_ble_eq_true rfl, Nat.le_of_ble_eq_true rfl⟩ (Nat.le_of_ble_eq_true rfl) ⟨Nat.le_of_ble_eq_true rfl, Nat.le_of_ble_eq_true rfl⟩ dL_best_5 rfl ?_
    refine J_i2l hC dL_best_8 ?_
    refine J_last hC dL_best_9 h (fun M3 _ h => ?_)
    refine J_goto (tgt := 21) hC dL_best_10 (by decide) ?_
    refine J_iconst (v := 0) hC dL_best_21 (by decide) ?_
    exact J_iret hC dL_best_22 (by have h9 := Option.some.inj h; subst h9; rfl) (Nat.le_of_ble_eq_true rfl) (Nat.le_of_ble_eq_true rfl)
abbrev rm_L_many : Room := { frames := 8, cells := 3, slots := 18, locals := 134 }

set_option maxHeartbeats 4000000 in
set_option maxRecDepth 100000 in
theorem cL_many_ok (M : Mem) (a0 : Option Nat) (a1 : Int32) (a2 : Int32) (a3 : Int32) (a4 : Option Nat) (r0 : Mem × Int32) (h : fL_many M a0 a1 a2 a3 a4 = some r0) : ∀ l : Launch, l.stackTraces = false → ConW l yL_many cL_many 6 (some .int) [(0, 12, 15, 13), (0, 12, 19, 15)] rm_L_many [rf a0, .int a1, .int a2, .int a3, rf a4] M (r0.1, Sum.inr (some (Value.int r0.2))) := by
  intro l hst
  refine ConW.enter hst (own := RL) (by decide +kernel) rfl (by exact Nat.le_of_ble_eq_true rfl) (lv0 := [(0, rf a0), (1, .int a1), (2, .int a2), (3, .int a3), (4, rf a4)]) (rfl) (fun C hC htab => ?_)
  unfold fL_many at h
  refine J_aload (j := 4) hC dL_many_0 rfl ?_
  refine J_iconst (v := 0) hC dL_many_2 (by decide) ?_
  refine J_aload_n (j := 0) hC dL_many_3 rfl ?_
  refine J_iload_n (j := 1) hC dL_many_4 rfl ?_
  refine J_iload_n (j := 2) hC dL_many_5 rfl ?_
  refine J_iload_n (j := 3) hC dL_many_6 rfl ?_
  refine ck_c h (fun ho h => ?_)
  refine bnd_c h (fun w1 hw h => ?_)
  refine thrE_c h (fun E hE h => ?_) (fun v2 hv h => ?_)
  · refine ite_c h (fun c9 h => ?_) (fun c9 h => ?_)
    · subst c9
      refine J_catchV (E := "java/lang/IndexOutOfBoundsException") (name := "java/lang/IndexOutOfBoundsException") (hh := [(0, 12, 15, 13), (0, 12, 19, 15)]) (As := [.int a1, .int a2, .int a3]) (M' := M) (st := [.int 0, rf a4]) [] (0, 12, 15, 13) [(0, 12, 19, 15)] hC htab rfl (fun z hz => absurd hz List.not_mem_nil) (by decide) (by decide) k_L_13 (fun U h => h.1.2.1) (fun l hl => by have h9 := cX2_many_ok M a0 a1 a2 a3 _ hw l hl; rw [hE] at h9; exact h9) vm_X2_many k_L_67 ho ⟨rfl, rfl⟩ rfl ⟨Nat.le_of_ble_eq_true rfl, Nat.le_of_ble_eq_true rfl⟩ (Nat.le_of_ble_eq_true rfl) ⟨Nat.le_of_ble_eq_true rfl, Nat.le_of_ble_eq_true rfl⟩ dL_many_7 rfl (fun q => ?_)
      refine J_astoreQ (lv' := [(5, .ref q), (0, rf a0), (1, .int a1), (2, .int a2), (3, .int a3), (4, rf a4)]) hC dL_many_15 (by decide) rfl ?_
      refine J_iconst (v := 1) hC dL_many_17 (by decide) ?_
      exact J_iret hC dL_many_18 (by have h9 := Option.some.inj h; subst h9; rfl) (Nat.le_of_ble_eq_true rfl) (Nat.le_of_ble_eq_true rfl)
    · refine ite_c h (fun c9 h => ?_) (fun c9 h => ?_)
      · subst c9
        refine J_catchV (E := "java/lang/IllegalArgumentException") (name := "java/lang/IllegalArgumentException") (hh := [(0, 12, 15, 13), (0, 12, 19, 15)]) (As := [.int a1, .int a2, .int a3]) (M' := M) (st := [.int 0, rf a4]) [(0, 12, 15, 13)] (0, 12, 19, 15) [] hC htab rfl (fun z hz => by rw [List.mem_singleton.mp hz]; exact ⟨by decide, "java/lang/IndexOutOfBoundsException", k_L_13, fun U h => h.1⟩) (by decide) (by decide) k_L_15 (fun U h => h.1.1) (fun l hl => by have h9 := cX2_many_ok M a0 a1 a2 a3 _ hw l hl; rw [hE] at h9; exact h9) vm_X2_many k_L_67 ho ⟨rfl, rfl⟩ rfl ⟨Nat.le_of_ble_eq_true rfl, Nat.le_of_ble_eq_true rfl⟩ (Nat.le_of_ble_eq_true rfl) ⟨Nat.le_of_ble_eq_true rfl, Nat.le_of_ble_eq_true rfl⟩ dL_many_7 rfl (fun q => ?_)
        refine J_astoreQ (lv' := [(5, .ref q), (0, rf a0), (1, .int a1), (2, .int a2), (3, .int a3), (4, rf a4)]) hC dL_many_19 (by decide) rfl ?_
        refine J_iconst (v := 2) hC dL_many_21 (by decide) ?_
        exact J_iret hC dL_many_22 (by have h9 := Option.some.inj h; subst h9; rfl) (Nat.le_of_ble_eq_true rfl) (Nat.le_of_ble_eq_true rfl)
      · cases h
  · refine J_callVX (As := [.int a1, .int a2, .int a3]) (M' := M) (rv := some (Value.int v2)) (st := [.int 0, rf a4]) hC (fun l hl => by have h9 := cX2_many_ok M a0 a1 a2 a3 _ hw l hl; rw [hv] at h9; exact h9) vm_X2_many k_L_67 ho ⟨rfl, rfl⟩ rfl ⟨Nat.le_of_ble_eq_true rfl, Nat.le_of_ble_eq_true rfl⟩ (Nat.le_of_ble_eq_true rfl) ⟨Nat.le_of_ble_eq_true rfl, Nat.le_of_ble_eq_true rfl⟩ dL_many_7 rfl ?_
    refine J_i2l hC dL_many_10 ?_
    refine J_last hC dL_many_11 h (fun M3 _ h => ?_)
    refine J_goto (tgt := 23) hC dL_many_12 (by decide) ?_
    refine J_iconst (v := 0) hC dL_many_23 (by decide) ?_
    exact J_iret hC dL_many_24 (by have h9 := Option.some.inj h; subst h9; rfl) (Nat.le_of_ble_eq_true rfl) (Nat.le_of_ble_eq_true rfl)
abbrev rm_L_isIn : Room := { frames := 8, cells := 4, slots := 24, locals := 135 }

set_option maxHeartbeats 4000000 in
set_option maxRecDepth 100000 in
theorem cL_isIn_ok (M : Mem) (a0 : Option Nat) (a1 : Int32) (a2 : Int32) (a3 : Int32) (a4 : Int32) (a5 : Option Nat) (r0 : Mem × Int32) (h : fL_isIn M a0 a1 a2 a3 a4 a5 = some r0) : ∀ l : Launch, l.stackTraces = false → ConW l yL_isIn cL_isIn 7 (some .int) [(0, 14, 17, 13), (0, 14, 21, 15)] rm_L_isIn [rf a0, .int a1, .int a2, .int a3, .int a4, rf a5] M (r0.1, Sum.inr (some (Value.int r0.2))) := by
  intro l hst
  refine ConW.enter hst (own := RL) (by decide +kernel) rfl (by exact Nat.le_of_ble_eq_true rfl) (lv0 := [(0, rf a0), (1, .int a1), (2, .int a2), (3, .int a3), (4, .int a4), (5, rf a5)]) (rfl) (fun C hC htab => ?_)
  unfold fL_isIn at h
  refine J_aload (j := 5) hC dL_isIn_0 rfl ?_
  refine J_iconst (v := 0) hC dL_isIn_2 (by decide) ?_
  refine J_aload_n (j := 0) hC dL_isIn_3 rfl ?_
  refine J_iload_n (j := 1) hC dL_isIn_4 rfl ?_
  refine J_iload_n (j := 2) hC dL_isIn_5 rfl ?_
  refine J_iload_n (j := 3) hC dL_isIn_6 rfl ?_
  refine J_iload (j := 4) hC dL_isIn_7 rfl ?_
  refine ck_c h (fun ho h => ?_)
  refine bnd_c h (fun w1 hw h => ?_)
  refine thrE_c h (fun E hE h => ?_) (fun v2 hv h => ?_)
  · refine ite_c h (fun c9 h => ?_) (fun c9 h => ?_)
    · subst c9
      refine J_catchV (E := "java/lang/IndexOutOfBoundsException") (name := "java/lang/IndexOutOfBoundsException") (hh := [(0, 14, 17, 13), (0, 14, 21, 15)]) (As := [.int a1, .int a2, .int a3, .int a4]) (M' := M) (st := [.int 0, rf a5]) [] (0, 14, 17, 13) [(0, 14, 21, 15)] hC htab rfl (fun z hz => absurd hz List.not_mem_nil) (by decide) (by decide) k_L_13 (fun U h => h.1.2.1) (fun l hl => by have h9 := cX2_isIn_ok M a0 a1 a2 a3 a4 _ hw l hl; rw [hE] at h9; exact h9) vm_X2_isIn k_L_70 ho ⟨rfl, rfl⟩ rfl ⟨Nat.le_of_ble_eq_true rfl, Nat.le_of_ble_eq_true rfl⟩ (Nat.le_of_ble_eq_true rfl) ⟨Nat.le_of_ble_eq_true rfl, Nat.le_of_ble_eq_true rfl⟩ dL_isIn_9 rfl (fun q => ?_)
      refine J_astoreQ (lv' := [(6, .ref q), (0, rf a0), (1, .int a1), (2, .int a2), (3, .int a3), (4, .int a4), (5, rf a5)]) hC dL_isIn_17 (by decide) rfl ?_
      refine J_iconst (v := 1) hC dL_isIn_19 (by decide) ?_
      exact J_iret hC dL_isIn_20 (by have h9 := Option.some.inj h; subst h9; rfl) (Nat.le_of_ble_eq_true rfl) (Nat.le_of_ble_eq_true rfl)
    · refine ite_c h (fun c9 h => ?_) (fun c9 h => ?_)
      · subst c9
        refine J_catchV (E := "java/lang/IllegalArgumentException") (name := "java/lang/IllegalArgumentException") (hh := [(0, 14, 17, 13), (0, 14, 21, 15)]) (As := [.int a1, .int a2, .int a3, .int a4]) (M' := M) (st := [.int 0, rf a5]) [(0, 14, 17, 13)] (0, 14, 21, 15) [] hC htab rfl (fun z hz => by rw [List.mem_singleton.mp hz]; exact ⟨by decide, "java/lang/IndexOutOfBoundsException", k_L_13, fun U h => h.1⟩) (by decide) (by decide) k_L_15 (fun U h => h.1.1) (fun l hl => by have h9 := cX2_isIn_ok M a0 a1 a2 a3 a4 _ hw l hl; rw [hE] at h9; exact h9) vm_X2_isIn k_L_70 ho ⟨rfl, rfl⟩ rfl ⟨Nat.le_of_ble_eq_true rfl, Nat.le_of_ble_eq_true rfl⟩ (Nat.le_of_ble_eq_true rfl) ⟨Nat.le_of_ble_eq_true rfl, Nat.le_of_ble_eq_true rfl⟩ dL_isIn_9 rfl (fun q => ?_)
        refine J_astoreQ (lv' := [(6, .ref q), (0, rf a0), (1, .int a1), (2, .int a2), (3, .int a3), (4, .int a4), (5, rf a5)]) hC dL_isIn_21 (by decide) rfl ?_
        refine J_iconst (v := 2) hC dL_isIn_23 (by decide) ?_
        exact J_iret hC dL_isIn_24 (by have h9 := Option.some.inj h; subst h9; rfl) (Nat.le_of_ble_eq_true rfl) (Nat.le_of_ble_eq_true rfl)
      · cases h
  · refine J_callVX (As := [.int a1, .int a2, .int a3, .int a4]) (M' := M) (rv := some (Value.int v2)) (st := [.int 0, rf a5]) hC (fun l hl => by have h9 := cX2_isIn_ok M a0 a1 a2 a3 a4 _ hw l hl; rw [hv] at h9; exact h9) vm_X2_isIn k_L_70 ho ⟨rfl, rfl⟩ rfl ⟨Nat.le_of_ble_eq_true rfl, Nat.le_of_ble_eq_true rfl⟩ (Nat.le_of_ble_eq_true rfl) ⟨Nat.le_of_ble_eq_true rfl, Nat.le_of_ble_eq_true rfl⟩ dL_isIn_9 rfl ?_
    refine J_i2l hC dL_isIn_12 ?_
    refine J_last hC dL_isIn_13 h (fun M3 _ h => ?_)
    refine J_goto (tgt := 25) hC dL_isIn_14 (by decide) ?_
    refine J_iconst (v := 0) hC dL_isIn_25 (by decide) ?_
    exact J_iret hC dL_isIn_26 (by have h9 := Option.some.inj h; subst h9; rfl) (Nat.le_of_ble_eq_true rfl) (Nat.le_of_ble_eq_true rfl)
abbrev rm_L_coefficient : Room := { frames := 8, cells := 1, slots := 6, locals := 131 }

set_option maxHeartbeats 4000000 in
set_option maxRecDepth 100000 in
theorem cL_coefficient_ok (M : Mem) (a0 : Option Nat) (a1 : Int32) (a2 : Option Nat) (r0 : Mem × Int32) (h : fL_coefficient M a0 a1 a2 = some r0) : ∀ l : Launch, l.stackTraces = false → ConW l yL_coefficient cL_coefficient 4 (some .int) [(0, 8, 11, 15)] rm_L_coefficient [rf a0, .int a1, rf a2] M (r0.1, Sum.inr (some (Value.int r0.2))) := by
  intro l hst
  refine ConW.enter hst (own := RL) (by decide +kernel) rfl (by exact Nat.le_of_ble_eq_true rfl) (lv0 := [(0, rf a0), (1, .int a1), (2, rf a2)]) (rfl) (fun C hC htab => ?_)
  unfold fL_coefficient at h
  refine J_aload_n (j := 2) hC dL_coefficient_0 rfl ?_
  refine J_iconst (v := 0) hC dL_coefficient_1 (by decide) ?_
  refine J_aload_n (j := 0) hC dL_coefficient_2 rfl ?_
  refine J_iload_n (j := 1) hC dL_coefficient_3 rfl ?_
  refine ck_c h (fun ho h => ?_)
  refine bnd_c h (fun w1 hw h => ?_)
  refine thrE_c h (fun E hE h => ?_) (fun v2 hv h => ?_)
  · refine ite_c h (fun c9 h => ?_) (fun c9 h => ?_)
    · subst c9
      refine J_catchV (E := "java/lang/IllegalArgumentException") (name := "java/lang/IllegalArgumentException") (hh := [(0, 8, 11, 15)]) (As := [.int a1]) (M' := w1.1) (st := [.int 0, rf a2]) [] (0, 8, 11, 15) [] hC htab rfl (fun z hz => absurd hz List.not_mem_nil) (by decide) (by decide) k_L_15 (fun U h => h.1.1) (fun l hl => by have h9 := cX2_coefficient_ok M a0 a1 _ hw l hl; rw [hE] at h9; exact h9) vm_X2_coefficient k_L_74 ho ⟨rfl, rfl⟩ rfl ⟨Nat.le_of_ble_eq_true rfl, Nat.le_of_ble_eq_true rfl⟩ (Nat.le_of_ble_eq_true rfl) ⟨Nat.le_of_ble_eq_true rfl, Nat.le_of_ble_eq_true rfl⟩ dL_coefficient_4 rfl (fun q => ?_)
      refine J_astoreQ_n (i := 3) (lv' := [(3, .ref q), (0, rf a0), (1, .int a1), (2, rf a2)]) rfl hC dL_coefficient_11 (by decide) rfl ?_
      refine J_iconst (v := 1) hC dL_coefficient_12 (by decide) ?_
      exact J_iret hC dL_coefficient_13 (by have h9 := Option.some.inj h; subst h9; rfl) (Nat.le_of_ble_eq_true rfl) (Nat.le_of_ble_eq_true rfl)
    · cases h
  · refine J_callVX (As := [.int a1]) (M' := w1.1) (rv := some (Value.long v2)) (st := [.int 0, rf a2]) hC (fun l hl => by have h9 := cX2_coefficient_ok M a0 a1 _ hw l hl; rw [hv] at h9; exact h9) vm_X2_coefficient k_L_74 ho ⟨rfl, rfl⟩ rfl ⟨Nat.le_of_ble_eq_true rfl, Nat.le_of_ble_eq_true rfl⟩ (Nat.le_of_ble_eq_true rfl) ⟨Nat.le_of_ble_eq_true rfl, Nat.le_of_ble_eq_true rfl⟩ dL_coefficient_4 rfl ?_
    refine J_last hC dL_coefficient_7 h (fun M3 _ h => ?_)
    refine J_goto (tgt := 14) hC dL_coefficient_8 (by decide) ?_
    refine J_iconst (v := 0) hC dL_coefficient_14 (by decide) ?_
    exact J_iret hC dL_coefficient_15 (by have h9 := Option.some.inj h; subst h9; rfl) (Nat.le_of_ble_eq_true rfl) (Nat.le_of_ble_eq_true rfl)
abbrev rm_L_count : Room := { frames := 8, cells := 1, slots := 6, locals := 132 }

set_option maxHeartbeats 4000000 in
set_option maxRecDepth 100000 in
theorem cL_count_ok (M : Mem) (a0 : Option Nat) (a1 : Int32) (a2 : Option Nat) (r0 : Mem × Int32) (h : fL_count M a0 a1 a2 = some r0) : ∀ l : Launch, l.stackTraces = false → ConW l yL_count cL_count 4 (some .int) [(0, 9, 12, 15)] rm_L_count [rf a0, .int a1, rf a2] M (r0.1, Sum.inr (some (Value.int r0.2))) := by
  intro l hst
  refine ConW.enter hst (own := RL) (by decide +kernel) rfl (by exact Nat.le_of_ble_eq_true rfl) (lv0 := [(0, rf a0), (1, .int a1), (2, rf a2)]) (rfl) (fun C hC htab => ?_)
  unfold fL_count at h
  refine J_aload_n (j := 2) hC dL_count_0 rfl ?_
  refine J_iconst (v := 0) hC dL_count_1 (by decide) ?_
  refine J_aload_n (j := 0) hC dL_count_2 rfl ?_
  refine J_iload_n (j := 1) hC dL_count_3 rfl ?_
  refine ck_c h (fun ho h => ?_)
  refine bnd_c h (fun w1 hw h => ?_)
  refine thrE_c h (fun E hE h => ?_) (fun v2 hv h => ?_)
  · refine ite_c h (fun c9 h => ?_) (fun c9 h => ?_)
    · subst c9
      refine J_catchV (E := "java/lang/IllegalArgumentException") (name := "java/lang/IllegalArgumentException") (hh := [(0, 9, 12, 15)]) (As := [.int a1]) (M' := M) (st := [.int 0, rf a2]) [] (0, 9, 12, 15) [] hC htab rfl (fun z hz => absurd hz List.not_mem_nil) (by decide) (by decide) k_L_15 (fun U h => h.1.1) (fun l hl => by have h9 := cX2_count_ok M a0 a1 _ hw l hl; rw [hE] at h9; exact h9) vm_X2_count k_L_78 ho ⟨rfl, rfl⟩ rfl ⟨Nat.le_of_ble_eq_true rfl, Nat.le_of_ble_eq_true rfl⟩ (Nat.le_of_ble_eq_true rfl) ⟨Nat.le_of_ble_eq_true rfl, Nat.le_of_ble_eq_true rfl⟩ dL_count_4 rfl (fun q => ?_)
      refine J_astoreQ_n (i := 3) (lv' := [(3, .ref q), (0, rf a0), (1, .int a1), (2, rf a2)]) rfl hC dL_count_12 (by decide) rfl ?_
      refine J_iconst (v := 1) hC dL_count_13 (by decide) ?_
      exact J_iret hC dL_count_14 (by have h9 := Option.some.inj h; subst h9; rfl) (Nat.le_of_ble_eq_true rfl) (Nat.le_of_ble_eq_true rfl)
    · cases h
  · refine J_callVX (As := [.int a1]) (M' := M) (rv := some (Value.int v2)) (st := [.int 0, rf a2]) hC (fun l hl => by have h9 := cX2_count_ok M a0 a1 _ hw l hl; rw [hv] at h9; exact h9) vm_X2_count k_L_78 ho ⟨rfl, rfl⟩ rfl ⟨Nat.le_of_ble_eq_true rfl, Nat.le_of_ble_eq_true rfl⟩ (Nat.le_of_ble_eq_true rfl) ⟨Nat.le_of_ble_eq_true rfl, Nat.le_of_ble_eq_true rfl⟩ dL_count_4 rfl ?_
    refine J_i2l hC dL_count_7 ?_
    refine J_last hC dL_count_8 h (fun M3 _ h => ?_)
    refine J_goto (tgt := 15) hC dL_count_9 (by decide) ?_
    refine J_iconst (v := 0) hC dL_count_15 (by decide) ?_
    exact J_iret hC dL_count_16 (by have h9 := Option.some.inj h; subst h9; rfl) (Nat.le_of_ble_eq_true rfl) (Nat.le_of_ble_eq_true rfl)
abbrev rm_L_takenShare : Room := { frames := 8, cells := 1, slots := 6, locals := 131 }

set_option maxHeartbeats 4000000 in
set_option maxRecDepth 100000 in
theorem cL_takenShare_ok (M : Mem) (a0 : Option Nat) (a1 : Int32) (a2 : Option Nat) (r0 : Mem × Int32) (h : fL_takenShare M a0 a1 a2 = some r0) : ∀ l : Launch, l.stackTraces = false → ConW l yL_takenShare cL_takenShare 4 (some .int) [(0, 8, 11, 13)] rm_L_takenShare [rf a0, .int a1, rf a2] M (r0.1, Sum.inr (some (Value.int r0.2))) := by
  intro l hst
  refine ConW.enter hst (own := RL) (by decide +kernel) rfl (by exact Nat.le_of_ble_eq_true rfl) (lv0 := [(0, rf a0), (1, .int a1), (2, rf a2)]) (rfl) (fun C hC htab => ?_)
  unfold fL_takenShare at h
  refine J_aload_n (j := 2) hC dL_takenShare_0 rfl ?_
  refine J_iconst (v := 0) hC dL_takenShare_1 (by decide) ?_
  refine J_aload_n (j := 0) hC dL_takenShare_2 rfl ?_
  refine J_iload_n (j := 1) hC dL_takenShare_3 rfl ?_
  refine ck_c h (fun ho h => ?_)
  refine bnd_c h (fun w1 hw h => ?_)
  refine thrE_c h (fun E hE h => ?_) (fun v2 hv h => ?_)
  · refine ite_c h (fun c9 h => ?_) (fun c9 h => ?_)
    · subst c9
      refine J_catchV (E := "java/lang/IndexOutOfBoundsException") (name := "java/lang/IndexOutOfBoundsException") (hh := [(0, 8, 11, 13)]) (As := [.int a1]) (M' := M) (st := [.int 0, rf a2]) [] (0, 8, 11, 13) [] hC htab rfl (fun z hz => absurd hz List.not_mem_nil) (by decide) (by decide) k_L_13 (fun U h => h.1.2.1) (fun l hl => by have h9 := cX2_takenShare_ok M a0 a1 _ hw l hl; rw [hE] at h9; exact h9) vm_X2_takenShare k_L_81 ho ⟨rfl, rfl⟩ rfl ⟨Nat.le_of_ble_eq_true rfl, Nat.le_of_ble_eq_true rfl⟩ (Nat.le_of_ble_eq_true rfl) ⟨Nat.le_of_ble_eq_true rfl, Nat.le_of_ble_eq_true rfl⟩ dL_takenShare_4 rfl (fun q => ?_)
      refine J_astoreQ_n (i := 3) (lv' := [(3, .ref q), (0, rf a0), (1, .int a1), (2, rf a2)]) rfl hC dL_takenShare_11 (by decide) rfl ?_
      refine J_iconst (v := 1) hC dL_takenShare_12 (by decide) ?_
      exact J_iret hC dL_takenShare_13 (by have h9 := Option.some.inj h; subst h9; rfl) (Nat.le_of_ble_eq_true rfl) (Nat.le_of_ble_eq_true rfl)
    · cases h
  · refine J_callVX (As := [.int a1]) (M' := M) (rv := some (Value.double v2)) (st := [.int 0, rf a2]) hC (fun l hl => by have h9 := cX2_takenShare_ok M a0 a1 _ hw l hl; rw [hv] at h9; exact h9) vm_X2_takenShare k_L_81 ho ⟨rfl, rfl⟩ rfl ⟨Nat.le_of_ble_eq_true rfl, Nat.le_of_ble_eq_true rfl⟩ (Nat.le_of_ble_eq_true rfl) ⟨Nat.le_of_ble_eq_true rfl, Nat.le_of_ble_eq_true rfl⟩ dL_takenShare_4 rfl ?_
    refine J_dast hC dL_takenShare_7 h (fun M3 _ h => ?_)
    refine J_goto (tgt := 14) hC dL_takenShare_8 (by decide) ?_
    refine J_iconst (v := 0) hC dL_takenShare_14 (by decide) ?_
    exact J_iret hC dL_takenShare_15 (by have h9 := Option.some.inj h; subst h9; rfl) (Nat.le_of_ble_eq_true rfl) (Nat.le_of_ble_eq_true rfl)
