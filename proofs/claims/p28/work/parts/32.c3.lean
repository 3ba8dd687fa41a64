abbrev rm_X2_isTooHigh : Room := { frames := 1, cells := 0, slots := 0, locals := 21 }

set_option maxHeartbeats 4000000 in
set_option maxRecDepth 100000 in
theorem cX2_isTooHigh_ok (M : Mem) (a0 : Option Nat) (a1 : Option Nat) (a2 : Int32) (r0 : Int32) (h : fX2_isTooHigh M a0 a1 a2 = some r0) : ∀ l : Launch, l.stackTraces = false → Con false l yX2_isTooHigh cX2_isTooHigh 3 (some .boolean) rm_X2_isTooHigh [rf a0, rf a1, .int a2] M (M, Sum.inr (some (Value.int r0))) := by
  intro l hst
  refine Con.enter hst (own := RX2) (by decide +kernel) rfl (by exact Nat.le_of_ble_eq_true rfl) (lv0 := [(0, rf a0), (1, rf a1), (2, .int a2)]) (rfl) (fun C hC hin => ?_)
  unfold fX2_isTooHigh at h
  refine J_iload_n (j := 2) hC dX2_isTooHigh_0 rfl ?_
  refine J_iconst (v := 1) hC dX2_isTooHigh_1 (by decide) ?_
  refine J_icmp_ne (tgt := 23) hC dX2_isTooHigh_2 (by decide) (fun c1 => ?_) (fun c1 => ?_)
  · have h := ite_f c1 h
    refine J_iconst (v := 0) hC dX2_isTooHigh_23 (by decide) ?_
    exact J_zret hC dX2_isTooHigh_24 (by decide) (by have h9 := Option.some.inj h; subst h9; rfl) (Nat.le_of_ble_eq_true rfl) (Nat.le_of_ble_eq_true rfl)
  · have h := ite_t c1 h
    refine J_aload_n (j := 0) hC dX2_isTooHigh_5 rfl ?_
    refine bnd_c h (fun w2 hw h => ?_)
    refine J_callS (As := [rf a0]) (M' := M) (rv := some (Value.int w2)) (st := []) hC (fun l hl => cX2_degreeOf_ok M a0 _ hw l hl) sm_X2_degreeOf k_X2_80 rfl ⟨Nat.le_of_ble_eq_true rfl, Nat.le_of_ble_eq_true rfl⟩ (Nat.zero_le _) ⟨Nat.le_of_ble_eq_true rfl, Nat.le_of_ble_eq_true rfl⟩ dX2_isTooHigh_6 rfl ?_
    refine J_aload_n (j := 1) hC dX2_isTooHigh_9 rfl ?_
    refine bnd_c h (fun w3 hw h => ?_)
    refine J_callS (As := [rf a1]) (M' := M) (rv := some (Value.int w3)) (st := [.int w2]) hC (fun l hl => cX2_degreeOf_ok M a1 _ hw l hl) sm_X2_degreeOf k_X2_80 rfl ⟨Nat.le_of_ble_eq_true rfl, Nat.le_of_ble_eq_true rfl⟩ (Nat.le_of_ble_eq_true rfl) ⟨Nat.le_of_ble_eq_true rfl, Nat.le_of_ble_eq_true rfl⟩ dX2_isTooHigh_10 rfl ?_
    refine J_iadd hC dX2_isTooHigh_13 ?_
    refine J_bipush (v := 8) hC dX2_isTooHigh_14 (by decide) ?_
    have hj : ∀ (z4 : Int32), z4 = (if (w2 + w3) ≤ 8 then 0 else 1) → J C 0 0 M 24 [(0, rf a0), (1, rf a1), (2, .int a2)] [.int z4] := by
      intro z4 ez4
      subst ez4
      exact J_zret hC dX2_isTooHigh_24 (by (repeat' split) <;> decide) (by have h9 := Option.some.inj h; subst h9; rfl) (Nat.le_of_ble_eq_true rfl) (Nat.le_of_ble_eq_true rfl)
    refine J_icmp_le (tgt := 23) hC dX2_isTooHigh_16 (by decide) (fun c5 => ?_) (fun c5 => ?_)
    · refine J_iconst (v := 0) hC dX2_isTooHigh_23 (by decide) ?_
      refine J_sub [0, 1, 2] rfl ?_
      exact hj _ (if_pos c5).symm
    · refine J_iconst (v := 1) hC dX2_isTooHigh_19 (by decide) ?_
      refine J_goto (tgt := 24) hC dX2_isTooHigh_20 (by decide) ?_
      refine J_sub [0, 1, 2] rfl ?_
      exact hj _ (if_neg c5).symm
abbrev rm_X2_sumMarks : Room := { frames := 1, cells := 0, slots := 0, locals := 20 }

set_option maxHeartbeats 4000000 in
set_option maxRecDepth 100000 in
theorem cX2_sumMarks_ok (M : Mem) (a0 : Option Nat) (a1 : Option Nat) (a2 : Int32) (r0 : Int32) (h : fX2_sumMarks M a0 a1 a2 = some r0) : ∀ l : Launch, l.stackTraces = false → Con false l yX2_sumMarks cX2_sumMarks 3 (some .int) rm_X2_sumMarks [rf a0, rf a1, .int a2] M (M, Sum.inr (some (Value.int r0))) := by
  intro l hst
  refine Con.enter hst (own := RX2) (by decide +kernel) rfl (by exact Nat.le_of_ble_eq_true rfl) (lv0 := [(0, rf a0), (1, rf a1), (2, .int a2)]) (rfl) (fun C hC hin => ?_)
  unfold fX2_sumMarks at h
  refine J_aload_n (j := 0) hC dX2_sumMarks_0 rfl ?_
  refine J_iload_n (j := 2) hC dX2_sumMarks_1 rfl ?_
  refine J_iald hC dX2_sumMarks_2 h (fun v1 _ h => ?_)
  refine bnd_c h (fun w2 hw h => ?_)
  refine J_callS (As := [.int v1]) (M' := M) (rv := some (Value.int w2)) (st := []) hC (fun l hl => cX2_markOf_ok M v1 _ hw l hl) sm_X2_markOf k_X2_234 rfl ⟨Nat.le_of_ble_eq_true rfl, Nat.le_of_ble_eq_true rfl⟩ (Nat.zero_le _) ⟨Nat.le_of_ble_eq_true rfl, Nat.le_of_ble_eq_true rfl⟩ dX2_sumMarks_3 rfl ?_
  refine J_aload_n (j := 1) hC dX2_sumMarks_6 rfl ?_
  refine J_iload_n (j := 2) hC dX2_sumMarks_7 rfl ?_
  refine J_iald hC dX2_sumMarks_8 h (fun v3 _ h => ?_)
  refine bnd_c h (fun w4 hw h => ?_)
  refine J_callS (As := [.int v3]) (M' := M) (rv := some (Value.int w4)) (st := [.int w2]) hC (fun l hl => cX2_markOf_ok M v3 _ hw l hl) sm_X2_markOf k_X2_234 rfl ⟨Nat.le_of_ble_eq_true rfl, Nat.le_of_ble_eq_true rfl⟩ (Nat.le_of_ble_eq_true rfl) ⟨Nat.le_of_ble_eq_true rfl, Nat.le_of_ble_eq_true rfl⟩ dX2_sumMarks_9 rfl ?_
  refine J_ior hC dX2_sumMarks_12 ?_
  exact J_iret hC dX2_sumMarks_13 (by have h9 := Option.some.inj h; subst h9; rfl) (Nat.le_of_ble_eq_true rfl) (Nat.le_of_ble_eq_true rfl)
abbrev rm_X2_productMarks : Room := { frames := 1, cells := 0, slots := 0, locals := 20 }

set_option maxHeartbeats 4000000 in
set_option maxRecDepth 100000 in
theorem tX2_productMarks_5 {C : JC} {r0 : Int32} (M : Mem) (x0 : Option Nat) (x1 : Option Nat) (x2 : Int32) (hC : Ok C false cX2_productMarks 5 rm_X2_productMarks (some .int) RX2 (M, Sum.inr (some (Value.int r0))))  (k34 : Int32 → Int32 → Option (Int32)) (hk34 : ∀ (x3 : Int32) (x4 : Int32), k34 x3 x4 = some r0 → J C 0 0 M 34 [(0, rf x0), (1, rf x1), (2, .int x2), (3, .int x3), (4, .int x4)] []) : ∀ (n : Nat) (x3 : Int32) (x4 : Int32), fX2_productMarks_5 M x0 x1 x2 k34 n x3 x4 = some r0 → J C 0 0 M 5 [(0, rf x0), (1, rf x1), (2, .int x2), (3, .int x3), (4, .int x4)] [] := by
  intro n
  induction n with
  | zero => intro x3 x4 h; have h : none = some r0 := h; cases h
  | succ n ih =>
    intro x3 x4 h
    rw [fX2_productMarks_5] at h
    refine J_iload (j := 4) hC dX2_productMarks_5 rfl ?_
    refine J_iload_n (j := 2) hC dX2_productMarks_7 rfl ?_
    refine J_icmp_gt (tgt := 34) hC dX2_productMarks_8 (by decide) (fun c1 => ?_) (fun c1 => ?_)
    · have h := ite_t c1 h
      refine J_sub [0, 1, 2, 3, 4] rfl ?_
      exact hk34 x3 x4 h
    · have h := ite_f c1 h
      refine J_iload_n (j := 3) hC dX2_productMarks_11 rfl ?_
      refine J_aload_n (j := 0) hC dX2_productMarks_12 rfl ?_
      refine J_iload (j := 4) hC dX2_productMarks_13 rfl ?_
      refine J_iald hC dX2_productMarks_15 h (fun v2 _ h => ?_)
      refine J_aload_n (j := 1) hC dX2_productMarks_16 rfl ?_
      refine J_iload_n (j := 2) hC dX2_productMarks_17 rfl ?_
      refine J_iload (j := 4) hC dX2_productMarks_18 rfl ?_
      refine J_isub hC dX2_productMarks_20 ?_
      refine J_iald hC dX2_productMarks_21 h (fun v3 _ h => ?_)
      refine J_imul hC dX2_productMarks_22 ?_
      refine bnd_c h (fun w4 hw h => ?_)
      refine J_callS (As := [.int (v2 * v3)]) (M' := M) (rv := some (Value.int w4)) (st := [.int x3]) hC (fun l hl => cX2_markOf_ok M (v2 * v3) _ hw l hl) sm_X2_markOf k_X2_234 rfl ⟨Nat.le_of_ble_eq_true rfl, Nat.le_of_ble_eq_true rfl⟩ (Nat.le_of_ble_eq_true rfl) ⟨Nat.le_of_ble_eq_true rfl, Nat.le_of_ble_eq_true rfl⟩ dX2_productMarks_23 rfl ?_
      refine J_ior hC dX2_productMarks_26 ?_
      refine J_istore_n (i := 3) (lv' := [(3, .int (x3 ||| w4)), (0, rf x0), (1, rf x1), (2, .int x2), (4, .int x4)]) rfl hC dX2_productMarks_27 (by decide) rfl ?_
      refine J_inc (j := 4) (k := 1) (lv' := [(4, .int (x4 + 1)), (3, .int (x3 ||| w4)), (0, rf x0), (1, rf x1), (2, .int x2)]) hC dX2_productMarks_28 (by decide) rfl (by decide) rfl ?_
      refine J_goto (tgt := 5) hC dX2_productMarks_31 (by decide) ?_
      refine J_sub [2, 3, 4, 1, 0] rfl ?_
      exact ih (x3 ||| w4) (x4 + 1) h
set_option maxHeartbeats 4000000 in
set_option maxRecDepth 100000 in
theorem cX2_productMarks_ok (M : Mem) (a0 : Option Nat) (a1 : Option Nat) (a2 : Int32) (r0 : Int32) (h : fX2_productMarks M a0 a1 a2 = some r0) : ∀ l : Launch, l.stackTraces = false → Con false l yX2_productMarks cX2_productMarks 5 (some .int) rm_X2_productMarks [rf a0, rf a1, .int a2] M (M, Sum.inr (some (Value.int r0))) := by
  intro l hst
  refine Con.enter hst (own := RX2) (by decide +kernel) rfl (by exact Nat.le_of_ble_eq_true rfl) (lv0 := [(0, rf a0), (1, rf a1), (2, .int a2)]) (rfl) (fun C hC hin => ?_)
  unfold fX2_productMarks at h
  refine J_iconst (v := 0) hC dX2_productMarks_0 (by decide) ?_
  refine J_istore_n (i := 3) (lv' := [(3, .int 0), (0, rf a0), (1, rf a1), (2, .int a2)]) rfl hC dX2_productMarks_1 (by decide) rfl ?_
  refine J_iconst (v := 0) hC dX2_productMarks_2 (by decide) ?_
  refine J_istore (lv' := [(4, .int 0), (3, .int 0), (0, rf a0), (1, rf a1), (2, .int a2)]) hC dX2_productMarks_3 (by decide) rfl ?_
  refine J_sub [2, 3, 4, 1, 0] rfl ?_
  refine tX2_productMarks_5 M a0 a1 a2 hC _ (fun x5 x6 h => ?_) FU 0 0 h
  · refine J_iload_n (j := 3) hC dX2_productMarks_34 rfl ?_
    exact J_iret hC dX2_productMarks_35 (by have h9 := Option.some.inj h; subst h9; rfl) (Nat.le_of_ble_eq_true rfl) (Nat.le_of_ble_eq_true rfl)
abbrev rm_X2_marksAt : Room := { frames := 2, cells := 0, slots := 0, locals := 44 }

set_option maxHeartbeats 4000000 in
set_option maxRecDepth 100000 in
theorem cX2_marksAt_ok (M : Mem) (a0 : Option Nat) (a1 : Option Nat) (a2 : Int32) (a3 : Int32) (r0 : Int32) (h : fX2_marksAt M a0 a1 a2 a3 = some r0) : ∀ l : Launch, l.stackTraces = false → Con false l yX2_marksAt cX2_marksAt 4 (some .int) rm_X2_marksAt [rf a0, rf a1, .int a2, .int a3] M (M, Sum.inr (some (Value.int r0))) := by
  intro l hst
  refine Con.enter hst (own := RX2) (by decide +kernel) rfl (by exact Nat.le_of_ble_eq_true rfl) (lv0 := [(0, rf a0), (1, rf a1), (2, .int a2), (3, .int a3)]) (rfl) (fun C hC hin => ?_)
  unfold fX2_marksAt at h
  refine J_iload_n (j := 2) hC dX2_marksAt_0 rfl ?_
  refine J_if_ne (tgt := 13) hC dX2_marksAt_1 (by decide) (fun c1 => ?_) (fun c1 => ?_)
  · have h := ite_f c1 h
    refine J_aload_n (j := 0) hC dX2_marksAt_13 rfl ?_
    refine J_aload_n (j := 1) hC dX2_marksAt_14 rfl ?_
    refine J_iload_n (j := 3) hC dX2_marksAt_15 rfl ?_
    refine bnd_c h (fun w3 hw h => ?_)
    refine J_callS (As := [rf a0, rf a1, .int a3]) (M' := M) (rv := some (Value.int w3)) (st := []) hC (fun l hl => cX2_productMarks_ok M a0 a1 a3 _ hw l hl) sm_X2_productMarks k_X2_240 rfl ⟨Nat.le_of_ble_eq_true rfl, Nat.le_of_ble_eq_true rfl⟩ (Nat.zero_le _) ⟨Nat.le_of_ble_eq_true rfl, Nat.le_of_ble_eq_true rfl⟩ dX2_marksAt_16 rfl ?_
    exact J_iret hC dX2_marksAt_19 (by have h9 := Option.some.inj h; subst h9; rfl) (Nat.le_of_ble_eq_true rfl) (Nat.le_of_ble_eq_true rfl)
  · have h := ite_t c1 h
    refine J_aload_n (j := 0) hC dX2_marksAt_4 rfl ?_
    refine J_aload_n (j := 1) hC dX2_marksAt_5 rfl ?_
    refine J_iload_n (j := 3) hC dX2_marksAt_6 rfl ?_
    refine bnd_c h (fun w2 hw h => ?_)
    refine J_callS (As := [rf a0, rf a1, .int a3]) (M' := M) (rv := some (Value.int w2)) (st := []) hC (fun l hl => cX2_sumMarks_ok M a0 a1 a3 _ hw l hl) sm_X2_sumMarks k_X2_237 rfl ⟨Nat.le_of_ble_eq_true rfl, Nat.le_of_ble_eq_true rfl⟩ (Nat.zero_le _) ⟨Nat.le_of_ble_eq_true rfl, Nat.le_of_ble_eq_true rfl⟩ dX2_marksAt_7 rfl ?_
    refine J_goto (tgt := 19) hC dX2_marksAt_10 (by decide) ?_
    exact J_iret hC dX2_marksAt_19 (by have h9 := Option.some.inj h; subst h9; rfl) (Nat.le_of_ble_eq_true rfl) (Nat.le_of_ble_eq_true rfl)
abbrev rm_X2_rowsOf : Room := { frames := 3, cells := 0, slots := 0, locals := 67 }

set_option maxHeartbeats 4000000 in
set_option maxRecDepth 100000 in
theorem tX2_rowsOf_17 {C : JC} {r0 : Int32} (M : Mem) (x0 : Option Nat) (x1 : Option Nat) (x2 : Int32) (hC : Ok C false cX2_rowsOf 5 rm_X2_rowsOf (some .int) RX2 (M, Sum.inr (some (Value.int r0))))  (k46 : Int32 → Int32 → Option (Int32)) (hk46 : ∀ (x3 : Int32) (x4 : Int32), k46 x3 x4 = some r0 → J C 0 0 M 46 [(0, rf x0), (1, rf x1), (2, .int x2), (3, .int x3), (4, .int x4)] []) : ∀ (n : Nat) (x3 : Int32) (x4 : Int32), fX2_rowsOf_17 M x0 x1 x2 k46 n x3 x4 = some r0 → J C 0 0 M 17 [(0, rf x0), (1, rf x1), (2, .int x2), (3, .int x3), (4, .int x4)] [] := by
  intro n
  induction n with
  | zero => intro x3 x4 h; have h : none = some r0 := h; cases h
  | succ n ih =>
    intro x3 x4 h
    rw [fX2_rowsOf_17] at h
    refine J_iload (j := 4) hC dX2_rowsOf_17 rfl ?_
    refine J_bipush (v := 9) hC dX2_rowsOf_19 (by decide) ?_
    refine J_icmp_ge (tgt := 46) hC dX2_rowsOf_21 (by decide) (fun c3 => ?_) (fun c3 => ?_)
    · have h := ite_t c3 h
      refine J_sub [0, 1, 2, 3, 4] rfl ?_
      exact hk46 x3 x4 h
    · have h := ite_f c3 h
      refine J_aload_n (j := 0) hC dX2_rowsOf_24 rfl ?_
      refine J_aload_n (j := 1) hC dX2_rowsOf_25 rfl ?_
      refine J_iload_n (j := 2) hC dX2_rowsOf_26 rfl ?_
      refine J_iload (j := 4) hC dX2_rowsOf_27 rfl ?_
      refine bnd_c h (fun w4 hw h => ?_)
      refine J_callS (As := [rf x0, rf x1, .int x2, .int x4]) (M' := M) (rv := some (Value.int w4)) (st := []) hC (fun l hl => cX2_marksAt_ok M x0 x1 x2 x4 _ hw l hl) sm_X2_marksAt k_X2_247 rfl ⟨Nat.le_of_ble_eq_true rfl, Nat.le_of_ble_eq_true rfl⟩ (Nat.zero_le _) ⟨Nat.le_of_ble_eq_true rfl, Nat.le_of_ble_eq_true rfl⟩ dX2_rowsOf_29 rfl ?_
      refine J_iconst (v := 3) hC dX2_rowsOf_32 (by decide) ?_
      have hj : ∀ (z5 : Int32), z5 = (if w4 = 3 then x3 * 3 else x3) → J C 0 0 M 40 [(0, rf x0), (1, rf x1), (2, .int x2), (3, .int z5), (4, .int x4)] [] := by
        intro z5 ez5
        subst ez5
        refine J_inc (j := 4) (k := 1) (lv' := [(4, .int (x4 + 1)), (0, rf x0), (1, rf x1), (2, .int x2), (3, .int (if w4 = 3 then x3 * 3 else x3))]) hC dX2_rowsOf_40 (by decide) rfl (by decide) rfl ?_
        refine J_goto (tgt := 17) hC dX2_rowsOf_43 (by decide) ?_
        refine J_sub [1, 2, 3, 4, 0] rfl ?_
        exact ih (if w4 = 3 then x3 * 3 else x3) (x4 + 1) h
      refine J_icmp_ne (tgt := 40) hC dX2_rowsOf_33 (by decide) (fun c6 => ?_) (fun c6 => ?_)
      · refine J_sub [0, 1, 2, 3, 4] rfl ?_
        exact hj _ (if_neg c6).symm
      · refine J_iload_n (j := 3) hC dX2_rowsOf_36 rfl ?_
        refine J_iconst (v := 3) hC dX2_rowsOf_37 (by decide) ?_
        refine J_imul hC dX2_rowsOf_38 ?_
        refine J_istore_n (i := 3) (lv' := [(3, .int (x3 * 3)), (0, rf x0), (1, rf x1), (2, .int x2), (4, .int x4)]) rfl hC dX2_rowsOf_39 (by decide) rfl ?_
        refine J_sub [1, 2, 3, 0, 4] rfl ?_
        exact hj _ (if_pos c6).symm
set_option maxHeartbeats 4000000 in
set_option maxRecDepth 100000 in
theorem cX2_rowsOf_ok (M : Mem) (a0 : Option Nat) (a1 : Option Nat) (a2 : Int32) (r0 : Int32) (h : fX2_rowsOf M a0 a1 a2 = some r0) : ∀ l : Launch, l.stackTraces = false → Con false l yX2_rowsOf cX2_rowsOf 5 (some .int) rm_X2_rowsOf [rf a0, rf a1, .int a2] M (M, Sum.inr (some (Value.int r0))) := by
  intro l hst
  refine Con.enter hst (own := RX2) (by decide +kernel) rfl (by exact Nat.le_of_ble_eq_true rfl) (lv0 := [(0, rf a0), (1, rf a1), (2, .int a2)]) (rfl) (fun C hC hin => ?_)
  unfold fX2_rowsOf at h
  refine J_aload_n (j := 0) hC dX2_rowsOf_0 rfl ?_
  refine J_aload_n (j := 1) hC dX2_rowsOf_1 rfl ?_
  refine J_iload_n (j := 2) hC dX2_rowsOf_2 rfl ?_
  refine bnd_c h (fun w1 hw h => ?_)
  refine J_callS (As := [rf a0, rf a1, .int a2]) (M' := M) (rv := some (Value.int w1)) (st := []) hC (fun l hl => cX2_isTooHigh_ok M a0 a1 a2 _ hw l hl) sm_X2_isTooHigh k_X2_243 rfl ⟨Nat.le_of_ble_eq_true rfl, Nat.le_of_ble_eq_true rfl⟩ (Nat.zero_le _) ⟨Nat.le_of_ble_eq_true rfl, Nat.le_of_ble_eq_true rfl⟩ dX2_rowsOf_3 rfl ?_
  refine J_if_eq (tgt := 12) hC dX2_rowsOf_6 (by decide) (fun c2 => ?_) (fun c2 => ?_)
  · have h := ite_t c2 h
    refine J_iconst (v := 1) hC dX2_rowsOf_12 (by decide) ?_
    refine J_istore_n (i := 3) (lv' := [(3, .int 1), (0, rf a0), (1, rf a1), (2, .int a2)]) rfl hC dX2_rowsOf_13 (by decide) rfl ?_
    refine J_iconst (v := 0) hC dX2_rowsOf_14 (by decide) ?_
    refine J_istore (lv' := [(4, .int 0), (3, .int 1), (0, rf a0), (1, rf a1), (2, .int a2)]) hC dX2_rowsOf_15 (by decide) rfl ?_
    refine J_sub [2, 3, 4, 1, 0] rfl ?_
    refine tX2_rowsOf_17 M a0 a1 a2 hC _ (fun x7 x8 h => ?_) FU 1 0 h
    · refine J_iload_n (j := 3) hC dX2_rowsOf_46 rfl ?_
      exact J_iret hC dX2_rowsOf_47 (by have h9 := Option.some.inj h; subst h9; rfl) (Nat.le_of_ble_eq_true rfl) (Nat.le_of_ble_eq_true rfl)
  · have h := ite_f c2 h
    refine J_bipush (v := (-9)) hC dX2_rowsOf_9 (by decide) ?_
    exact J_iret hC dX2_rowsOf_11 (by have h9 := Option.some.inj h; subst h9; rfl) (Nat.le_of_ble_eq_true rfl) (Nat.le_of_ble_eq_true rfl)
abbrev rm_X2_many : Room := { frames := 4, cells := 0, slots := 0, locals := 91 }

set_option maxHeartbeats 4000000 in
set_option maxRecDepth 100000 in
theorem cX2_many_ok (M : Mem) (a0 : Option Nat) (a1 : Int32) (a2 : Int32) (a3 : Int32) (r0 : Int32) (h : fX2_many M a0 a1 a2 a3 = some r0) : ∀ l : Launch, l.stackTraces = false → Con false l yX2_many cX2_many 4 (some .int) rm_X2_many [rf a0, .int a1, .int a2, .int a3] M (M, Sum.inr (some (Value.int r0))) := by
  intro l hst
  refine Con.enter hst (own := RX2) (by decide +kernel) rfl (by exact Nat.le_of_ble_eq_true rfl) (lv0 := [(0, rf a0), (1, .int a1), (2, .int a2), (3, .int a3)]) (rfl) (fun C hC hin => ?_)
  unfold fX2_many at h
  refine J_iload_n (j := 1) hC dX2_many_0 rfl ?_
  refine bnd_c h (fun w1 hw h => ?_)
  refine J_callS (As := [.int a1]) (M' := M) (rv := none) (st := []) hC (fun l hl => cX2_checkNumber_ok M a1 _ hw l hl) sm_X2_checkNumber k_X2_56 rfl ⟨Nat.le_of_ble_eq_true rfl, Nat.le_of_ble_eq_true rfl⟩ (Nat.zero_le _) ⟨Nat.le_of_ble_eq_true rfl, Nat.le_of_ble_eq_true rfl⟩ dX2_many_1 rfl ?_
  refine J_iload_n (j := 2) hC dX2_many_4 rfl ?_
  refine bnd_c h (fun w2 hw h => ?_)
  refine J_callS (As := [.int a2]) (M' := M) (rv := none) (st := []) hC (fun l hl => cX2_checkNumber_ok M a2 _ hw l hl) sm_X2_checkNumber k_X2_56 rfl ⟨Nat.le_of_ble_eq_true rfl, Nat.le_of_ble_eq_true rfl⟩ (Nat.zero_le _) ⟨Nat.le_of_ble_eq_true rfl, Nat.le_of_ble_eq_true rfl⟩ dX2_many_5 rfl ?_
  refine J_iload_n (j := 3) hC dX2_many_8 rfl ?_
  refine J_iconst (v := 2) hC dX2_many_9 (by decide) ?_
  refine bnd_c h (fun w3 hw h => ?_)
  refine J_callS (As := [.int a3, .int 2]) (M' := M) (rv := none) (st := []) hC (fun l hl => cX2_checkWhat_ok M a3 2 _ hw l hl) sm_X2_checkWhat k_X2_151 rfl ⟨Nat.le_of_ble_eq_true rfl, Nat.le_of_ble_eq_true rfl⟩ (Nat.zero_le _) ⟨Nat.le_of_ble_eq_true rfl, Nat.le_of_ble_eq_true rfl⟩ dX2_many_10 rfl ?_
  refine J_aload_n (j := 0) hC dX2_many_13 rfl ?_
  refine J_g2_0 hC k_X2_12 dX2_many_14 h (fun v4 _ h => ?_)
  refine J_g1_0 hC k_X2_69 dX2_many_17 h (fun v5 _ h => ?_)
  refine J_iload_n (j := 1) hC dX2_many_20 rfl ?_
  refine J_aald9 hC dX2_many_21 h (fun v6 _ h => ?_)
  refine J_aload_n (j := 0) hC dX2_many_22 rfl ?_
  refine J_g2_0 hC k_X2_12 dX2_many_23 h (fun v7 _ h => ?_)
  refine J_g1_0 hC k_X2_69 dX2_many_26 h (fun v8 _ h => ?_)
  refine J_iload_n (j := 2) hC dX2_many_29 rfl ?_
  refine J_aald9 hC dX2_many_30 h (fun v9 _ h => ?_)
  refine J_iload_n (j := 3) hC dX2_many_31 rfl ?_
  refine bnd_c h (fun w10 hw h => ?_)
  refine J_callS (As := [rf v6, rf v9, .int a3]) (M' := M) (rv := some (Value.int w10)) (st := []) hC (fun l hl => cX2_rowsOf_ok M v6 v9 a3 _ hw l hl) sm_X2_rowsOf k_X2_177 rfl ⟨Nat.le_of_ble_eq_true rfl, Nat.le_of_ble_eq_true rfl⟩ (Nat.zero_le _) ⟨Nat.le_of_ble_eq_true rfl, Nat.le_of_ble_eq_true rfl⟩ dX2_many_32 rfl ?_
  exact J_iret hC dX2_many_35 (by have h9 := Option.some.inj h; subst h9; rfl) (Nat.le_of_ble_eq_true rfl) (Nat.le_of_ble_eq_true rfl)
abbrev rm_X2_isAmong : Room := { frames := 3, cells := 0, slots := 0, locals := 67 }

set_option maxHeartbeats 4000000 in
set_option maxRecDepth 100000 in
theorem tX2_isAmong_14 {C : JC} {r0 : Int32} (M : Mem) (x0 : Option Nat) (x1 : Option Nat) (x2 : Option Nat) (x3 : Int32) (hC : Ok C false cX2_isAmong 5 rm_X2_isAmong (some .boolean) RX2 (M, Sum.inr (some (Value.int r0))))  (k39 : Int32 → Option (Int32)) (k47 : Int32 → Option (Int32)) (hk39 : ∀ (x4 : Int32), k39 x4 = some r0 → J C 0 0 M 39 [(0, rf x0), (1, rf x1), (2, rf x2), (3, .int x3), (4, .int x4)] []) (hk47 : ∀ (x4 : Int32), k47 x4 = some r0 → J C 0 0 M 47 [(0, rf x0), (1, rf x1), (2, rf x2), (3, .int x3), (4, .int x4)] []) : ∀ (n : Nat) (x4 : Int32), fX2_isAmong_14 M x0 x1 x2 x3 k39 k47 n x4 = some r0 → J C 0 0 M 14 [(0, rf x0), (1, rf x1), (2, rf x2), (3, .int x3), (4, .int x4)] [] := by
  intro n
  induction n with
  | zero => intro x4 h; have h : none = some r0 := h; cases h
  | succ n ih =>
    intro x4 h
    rw [fX2_isAmong_14] at h
    refine J_iload (j := 4) hC dX2_isAmong_14 rfl ?_
    refine J_bipush (v := 9) hC dX2_isAmong_16 (by decide) ?_
    refine J_icmp_ge (tgt := 47) hC dX2_isAmong_18 (by decide) (fun c3 => ?_) (fun c3 => ?_)
    · have h := ite_t c3 h
      refine J_sub [0, 1, 2, 3, 4] rfl ?_
      exact hk47 x4 h
    · have h := ite_f c3 h
      refine J_aload_n (j := 1) hC dX2_isAmong_21 rfl ?_
      refine J_aload_n (j := 2) hC dX2_isAmong_22 rfl ?_
      refine J_iload_n (j := 3) hC dX2_isAmong_23 rfl ?_
      refine J_iload (j := 4) hC dX2_isAmong_24 rfl ?_
      refine bnd_c h (fun w4 hw h => ?_)
      refine J_callS (As := [rf x1, rf x2, .int x3, .int x4]) (M' := M) (rv := some (Value.int w4)) (st := []) hC (fun l hl => cX2_marksAt_ok M x1 x2 x3 x4 _ hw l hl) sm_X2_marksAt k_X2_247 rfl ⟨Nat.le_of_ble_eq_true rfl, Nat.le_of_ble_eq_true rfl⟩ (Nat.zero_le _) ⟨Nat.le_of_ble_eq_true rfl, Nat.le_of_ble_eq_true rfl⟩ dX2_isAmong_26 rfl ?_
      refine J_aload_n (j := 0) hC dX2_isAmong_29 rfl ?_
      refine J_iload (j := 4) hC dX2_isAmong_30 rfl ?_
      refine J_iald hC dX2_isAmong_32 h (fun v5 _ h => ?_)
      refine bnd_c h (fun w6 hw h => ?_)
      refine J_callS (As := [.int w4, .int v5]) (M' := M) (rv := some (Value.int w6)) (st := []) hC (fun l hl => cX2_holds_ok M w4 v5 _ hw l hl) sm_X2_holds k_X2_251 rfl ⟨Nat.le_of_ble_eq_true rfl, Nat.le_of_ble_eq_true rfl⟩ (Nat.zero_le _) ⟨Nat.le_of_ble_eq_true rfl, Nat.le_of_ble_eq_true rfl⟩ dX2_isAmong_33 rfl ?_
      refine J_if_ne (tgt := 41) hC dX2_isAmong_36 (by decide) (fun c7 => ?_) (fun c7 => ?_)
      · have h := ite_f c7 h
        refine J_inc (j := 4) (k := 1) (lv' := [(4, .int (x4 + 1)), (0, rf x0), (1, rf x1), (2, rf x2), (3, .int x3)]) hC dX2_isAmong_41 (by decide) rfl (by decide) rfl ?_
        refine J_goto (tgt := 14) hC dX2_isAmong_44 (by decide) ?_
        refine J_sub [1, 2, 3, 4, 0] rfl ?_
        exact ih (x4 + 1) h
      · have h := ite_t c7 h
        refine J_sub [0, 1, 2, 3, 4] rfl ?_
        exact hk39 x4 h
set_option maxHeartbeats 4000000 in
set_option maxRecDepth 100000 in
theorem cX2_isAmong_ok (M : Mem) (a0 : Option Nat) (a1 : Option Nat) (a2 : Option Nat) (a3 : Int32) (r0 : Int32) (h : fX2_isAmong M a0 a1 a2 a3 = some r0) : ∀ l : Launch, l.stackTraces = false → Con false l yX2_isAmong cX2_isAmong 5 (some .boolean) rm_X2_isAmong [rf a0, rf a1, rf a2, .int a3] M (M, Sum.inr (some (Value.int r0))) := by
  intro l hst
  refine Con.enter hst (own := RX2) (by decide +kernel) rfl (by exact Nat.le_of_ble_eq_true rfl) (lv0 := [(0, rf a0), (1, rf a1), (2, rf a2), (3, .int a3)]) (rfl) (fun C hC hin => ?_)
  unfold fX2_isAmong at h
  refine J_aload_n (j := 1) hC dX2_isAmong_0 rfl ?_
  refine J_aload_n (j := 2) hC dX2_isAmong_1 rfl ?_
  refine J_iload_n (j := 3) hC dX2_isAmong_2 rfl ?_
  refine bnd_c h (fun w1 hw h => ?_)
  refine J_callS (As := [rf a1, rf a2, .int a3]) (M' := M) (rv := some (Value.int w1)) (st := []) hC (fun l hl => cX2_isTooHigh_ok M a1 a2 a3 _ hw l hl) sm_X2_isTooHigh k_X2_243 rfl ⟨Nat.le_of_ble_eq_true rfl, Nat.le_of_ble_eq_true rfl⟩ (Nat.zero_le _) ⟨Nat.le_of_ble_eq_true rfl, Nat.le_of_ble_eq_true rfl⟩ dX2_isAmong_3 rfl ?_
  refine J_if_eq (tgt := 11) hC dX2_isAmong_6 (by decide) (fun c2 => ?_) (fun c2 => ?_)
  · have h := ite_t c2 h
    refine J_iconst (v := 0) hC dX2_isAmong_11 (by decide) ?_
    refine J_istore (lv' := [(4, .int 0), (0, rf a0), (1, rf a1), (2, rf a2), (3, .int a3)]) hC dX2_isAmong_12 (by decide) rfl ?_
    refine J_sub [1, 2, 3, 4, 0] rfl ?_
    refine tX2_isAmong_14 M a0 a1 a2 a3 hC _ _ (fun x8 h => ?_) (fun x9 h => ?_) FU 0 h
    · refine J_iconst (v := 0) hC dX2_isAmong_39 (by decide) ?_
      exact J_zret hC dX2_isAmong_40 (by decide) (by have h9 := Option.some.inj h; subst h9; rfl) (Nat.le_of_ble_eq_true rfl) (Nat.le_of_ble_eq_true rfl)
    · refine J_iconst (v := 1) hC dX2_isAmong_47 (by decide) ?_
      exact J_zret hC dX2_isAmong_48 (by decide) (by have h9 := Option.some.inj h; subst h9; rfl) (Nat.le_of_ble_eq_true rfl) (Nat.le_of_ble_eq_true rfl)
  · have h := ite_f c2 h
    refine J_iconst (v := 0) hC dX2_isAmong_9 (by decide) ?_
    exact J_zret hC dX2_isAmong_10 (by decide) (by have h9 := Option.some.inj h; subst h9; rfl) (Nat.le_of_ble_eq_true rfl) (Nat.le_of_ble_eq_true rfl)
abbrev rm_X2_isIn : Room := { frames := 4, cells := 0, slots := 0, locals := 91 }

set_option maxHeartbeats 4000000 in
set_option maxRecDepth 100000 in
theorem cX2_isIn_ok (M : Mem) (a0 : Option Nat) (a1 : Int32) (a2 : Int32) (a3 : Int32) (a4 : Int32) (r0 : Int32) (h : fX2_isIn M a0 a1 a2 a3 a4 = some r0) : ∀ l : Launch, l.stackTraces = false → Con false l yX2_isIn cX2_isIn 5 (some .int) rm_X2_isIn [rf a0, .int a1, .int a2, .int a3, .int a4] M (M, Sum.inr (some (Value.int r0))) := by
  intro l hst
  refine Con.enter hst (own := RX2) (by decide +kernel) rfl (by exact Nat.le_of_ble_eq_true rfl) (lv0 := [(0, rf a0), (1, .int a1), (2, .int a2), (3, .int a3), (4, .int a4)]) (rfl) (fun C hC hin => ?_)
  unfold fX2_isIn at h
  refine J_iload_n (j := 1) hC dX2_isIn_0 rfl ?_
  refine bnd_c h (fun w1 hw h => ?_)
  refine J_callS (As := [.int a1]) (M' := M) (rv := none) (st := []) hC (fun l hl => cX2_checkNumber_ok M a1 _ hw l hl) sm_X2_checkNumber k_X2_56 rfl ⟨Nat.le_of_ble_eq_true rfl, Nat.le_of_ble_eq_true rfl⟩ (Nat.zero_le _) ⟨Nat.le_of_ble_eq_true rfl, Nat.le_of_ble_eq_true rfl⟩ dX2_isIn_1 rfl ?_
  refine J_iload_n (j := 2) hC dX2_isIn_4 rfl ?_
  refine bnd_c h (fun w2 hw h => ?_)
  refine J_callS (As := [.int a2]) (M' := M) (rv := none) (st := []) hC (fun l hl => cX2_checkNumber_ok M a2 _ hw l hl) sm_X2_checkNumber k_X2_56 rfl ⟨Nat.le_of_ble_eq_true rfl, Nat.le_of_ble_eq_true rfl⟩ (Nat.zero_le _) ⟨Nat.le_of_ble_eq_true rfl, Nat.le_of_ble_eq_true rfl⟩ dX2_isIn_5 rfl ?_
  refine J_iload_n (j := 3) hC dX2_isIn_8 rfl ?_
  refine bnd_c h (fun w3 hw h => ?_)
  refine J_callS (As := [.int a3]) (M' := M) (rv := none) (st := []) hC (fun l hl => cX2_checkNumber_ok M a3 _ hw l hl) sm_X2_checkNumber k_X2_56 rfl ⟨Nat.le_of_ble_eq_true rfl, Nat.le_of_ble_eq_true rfl⟩ (Nat.zero_le _) ⟨Nat.le_of_ble_eq_true rfl, Nat.le_of_ble_eq_true rfl⟩ dX2_isIn_9 rfl ?_
  refine J_iload (j := 4) hC dX2_isIn_12 rfl ?_
  refine J_iconst (v := 2) hC dX2_isIn_14 (by decide) ?_
  refine bnd_c h (fun w4 hw h => ?_)
  refine J_callS (As := [.int a4, .int 2]) (M' := M) (rv := none) (st := []) hC (fun l hl => cX2_checkWhat_ok M a4 2 _ hw l hl) sm_X2_checkWhat k_X2_151 rfl ⟨Nat.le_of_ble_eq_true rfl, Nat.le_of_ble_eq_true rfl⟩ (Nat.zero_le _) ⟨Nat.le_of_ble_eq_true rfl, Nat.le_of_ble_eq_true rfl⟩ dX2_isIn_15 rfl ?_
  refine J_aload_n (j := 0) hC dX2_isIn_18 rfl ?_
  refine J_g2_0 hC k_X2_12 dX2_isIn_19 h (fun v5 _ h => ?_)
  refine J_g1_0 hC k_X2_69 dX2_isIn_22 h (fun v6 _ h => ?_)
  refine J_iload_n (j := 1) hC dX2_isIn_25 rfl ?_
  refine J_aald9 hC dX2_isIn_26 h (fun v7 _ h => ?_)
  refine J_aload_n (j := 0) hC dX2_isIn_27 rfl ?_
  refine J_g2_0 hC k_X2_12 dX2_isIn_28 h (fun v8 _ h => ?_)
  refine J_g1_0 hC k_X2_69 dX2_isIn_31 h (fun v9 _ h => ?_)
  refine J_iload_n (j := 2) hC dX2_isIn_34 rfl ?_
  refine J_aald9 hC dX2_isIn_35 h (fun v10 _ h => ?_)
  refine J_aload_n (j := 0) hC dX2_isIn_36 rfl ?_
  refine J_g2_0 hC k_X2_12 dX2_isIn_37 h (fun v11 _ h => ?_)
  refine J_g1_0 hC k_X2_69 dX2_isIn_40 h (fun v12 _ h => ?_)
  refine J_iload_n (j := 3) hC dX2_isIn_43 rfl ?_
  refine J_aald9 hC dX2_isIn_44 h (fun v13 _ h => ?_)
  refine J_iload (j := 4) hC dX2_isIn_45 rfl ?_
  refine bnd_c h (fun w14 hw h => ?_)
  refine J_callS (As := [rf v7, rf v10, rf v13, .int a4]) (M' := M) (rv := some (Value.int w14)) (st := []) hC (fun l hl => cX2_isAmong_ok M v7 v10 v13 a4 _ hw l hl) sm_X2_isAmong k_X2_181 rfl ⟨Nat.le_of_ble_eq_true rfl, Nat.le_of_ble_eq_true rfl⟩ (Nat.zero_le _) ⟨Nat.le_of_ble_eq_true rfl, Nat.le_of_ble_eq_true rfl⟩ dX2_isIn_47 rfl ?_
  have hj : ∀ (z15 : Int32), z15 = (if w14 = 0 then 0 else 1) → J C 0 0 M 58 [(0, rf a0), (1, .int a1), (2, .int a2), (3, .int a3), (4, .int a4)] [.int z15] := by
    intro z15 ez15
    subst ez15
    exact J_iret hC dX2_isIn_58 (by have h9 := Option.some.inj h; subst h9; rfl) (Nat.le_of_ble_eq_true rfl) (Nat.le_of_ble_eq_true rfl)
  refine J_if_eq (tgt := 57) hC dX2_isIn_50 (by decide) (fun c16 => ?_) (fun c16 => ?_)
  · refine J_iconst (v := 0) hC dX2_isIn_57 (by decide) ?_
    refine J_sub [0, 1, 2, 3, 4] rfl ?_
    exact hj _ (if_pos c16).symm
  · refine J_iconst (v := 1) hC dX2_isIn_53 (by decide) ?_
    refine J_goto (tgt := 58) hC dX2_isIn_54 (by decide) ?_
    refine J_sub [0, 1, 2, 3, 4] rfl ?_
    exact hj _ (if_neg c16).symm
abbrev rm_X2_coefficient : Room := { frames := 1, cells := 0, slots := 0, locals := 22 }

set_option maxHeartbeats 4000000 in
set_option maxRecDepth 100000 in
theorem cX2_coefficient_ok (M : Mem) (a0 : Option Nat) (a1 : Int32) (r0 : Mem × Int64) (h : fX2_coefficient M a0 a1 = some r0) : ∀ l : Launch, l.stackTraces = false → Con false l yX2_coefficient cX2_coefficient 2 (some .long) rm_X2_coefficient [rf a0, .int a1] M (r0.1, Sum.inr (some (Value.long r0.2))) := by
  intro l hst
  refine Con.enter hst (own := RX2) (by decide +kernel) rfl (by exact Nat.le_of_ble_eq_true rfl) (lv0 := [(0, rf a0), (1, .int a1)]) (rfl) (fun C hC hin => ?_)
  unfold fX2_coefficient at h
  refine J_iload_n (j := 1) hC dX2_coefficient_0 rfl ?_
  refine bnd_c h (fun w1 hw h => ?_)
  refine J_callS (As := [.int a1]) (M' := M) (rv := none) (st := []) hC (fun l hl => cX2_checkPower_ok M a1 _ hw l hl) sm_X2_checkPower k_X2_60 rfl ⟨Nat.le_of_ble_eq_true rfl, Nat.le_of_ble_eq_true rfl⟩ (Nat.zero_le _) ⟨Nat.le_of_ble_eq_true rfl, Nat.le_of_ble_eq_true rfl⟩ dX2_coefficient_1 rfl ?_
  refine J_aload_n (j := 0) hC dX2_coefficient_4 rfl ?_
  refine ck_c h (fun ho h => ?_)
  refine bnd_c h (fun w2 hw h => ?_)
  refine J_callV (As := []) (M' := w2) (rv := none) (st := []) hC (fun l hl => cX2_expandWhole_ok M a0 _ hw l hl) vm_X2_expandWhole k_X2_113 ho ⟨rfl, rfl⟩ rfl ⟨Nat.le_of_ble_eq_true rfl, Nat.le_of_ble_eq_true rfl⟩ (Nat.zero_le _) ⟨Nat.le_of_ble_eq_true rfl, Nat.le_of_ble_eq_true rfl⟩ dX2_coefficient_5 rfl ?_
  refine J_aload_n (j := 0) hC dX2_coefficient_8 rfl ?_
  refine J_g2_7 hC k_X2_38 dX2_coefficient_9 h (fun v3 _ h => ?_)
  refine J_iload_n (j := 1) hC dX2_coefficient_12 rfl ?_
  refine J_lald hC dX2_coefficient_13 h (fun v4 _ h => ?_)
  exact J_lret hC dX2_coefficient_14 (by have h9 := Option.some.inj h; subst h9; rfl) (Nat.le_of_ble_eq_true rfl) (Nat.le_of_ble_eq_true rfl)
abbrev rm_X2_rootsOfSign : Room := { frames := 1, cells := 0, slots := 0, locals := 21 }

set_option maxHeartbeats 4000000 in
set_option maxRecDepth 100000 in
theorem tX2_rootsOfSign_4 {C : JC} {r0 : Int32} (M : Mem) (x0 : Option Nat) (x1 : Int32) (hC : Ok C false cX2_rootsOfSign 4 rm_X2_rootsOfSign (some .int) RX2 (M, Sum.inr (some (Value.int r0))))  (k47 : Int32 → Int32 → Option (Int32)) (hk47 : ∀ (x2 : Int32) (x3 : Int32), k47 x2 x3 = some r0 → J C 0 0 M 47 [(0, rf x0), (1, .int x1), (2, .int x2), (3, .int x3)] []) : ∀ (n : Nat) (x2 : Int32) (x3 : Int32), fX2_rootsOfSign_4 M x0 x1 k47 n x2 x3 = some r0 → J C 0 0 M 4 [(0, rf x0), (1, .int x1), (2, .int x2), (3, .int x3)] [] := by
  intro n
  induction n with
  | zero => intro x2 x3 h; have h : none = some r0 := h; cases h
  | succ n ih =>
    intro x2 x3 h
    rw [fX2_rootsOfSign_4] at h
    refine J_iload_n (j := 3) hC dX2_rootsOfSign_4 rfl ?_
    refine J_aload_n (j := 0) hC dX2_rootsOfSign_5 rfl ?_
    refine J_g2_0 hC k_X2_12 dX2_rootsOfSign_6 h (fun v1 _ h => ?_)
    refine J_g1_2 hC k_X2_107 dX2_rootsOfSign_9 h (fun v2 _ h => ?_)
    refine J_icmp_ge (tgt := 47) hC dX2_rootsOfSign_12 (by decide) (fun c3 => ?_) (fun c3 => ?_)
    · have h := ite_t c3 h
      refine J_sub [0, 1, 2, 3] rfl ?_
      exact hk47 x2 x3 h
    · have h := ite_f c3 h
      refine J_iload_n (j := 3) hC dX2_rootsOfSign_15 rfl ?_
      refine J_bipush (v := 8) hC dX2_rootsOfSign_16 (by decide) ?_
      refine J_icmp_ge (tgt := 47) hC dX2_rootsOfSign_18 (by decide) (fun c4 => ?_) (fun c4 => ?_)
      · have h := ite_t c4 h
        refine J_sub [0, 1, 2, 3] rfl ?_
        exact hk47 x2 x3 h
      · have h := ite_f c4 h
        refine J_aload_n (j := 0) hC dX2_rootsOfSign_21 rfl ?_
        refine J_g2_0 hC k_X2_12 dX2_rootsOfSign_22 h (fun v5 _ h => ?_)
        refine J_g1_1 hC k_X2_110 dX2_rootsOfSign_25 h (fun v6 _ h => ?_)
        refine J_iload_n (j := 3) hC dX2_rootsOfSign_28 rfl ?_
        refine J_iald hC dX2_rootsOfSign_29 h (fun v7 _ h => ?_)
        refine J_i2l hC dX2_rootsOfSign_30 ?_
        refine bnd_c h (fun w8 hw h => ?_)
        refine J_callS (As := [.long v7.toInt64]) (M' := M) (rv := some (Value.int w8)) (st := []) hC (fun l hl => cX2_signOf_ok M v7.toInt64 _ hw l hl) sm_X2_signOf k_X2_116 rfl ⟨Nat.le_of_ble_eq_true rfl, Nat.le_of_ble_eq_true rfl⟩ (Nat.zero_le _) ⟨Nat.le_of_ble_eq_true rfl, Nat.le_of_ble_eq_true rfl⟩ dX2_rootsOfSign_31 rfl ?_
        refine J_iload_n (j := 1) hC dX2_rootsOfSign_34 rfl ?_
        refine J_icmp_ne (tgt := 41) hC dX2_rootsOfSign_35 (by decide) (fun c9 => ?_) (fun c9 => ?_)
        · have h := ite_f c9 h
          refine J_inc (j := 3) (k := 1) (lv' := [(3, .int (x3 + 1)), (0, rf x0), (1, .int x1), (2, .int x2)]) hC dX2_rootsOfSign_41 (by decide) rfl (by decide) rfl ?_
          refine J_goto (tgt := 4) hC dX2_rootsOfSign_44 (by decide) ?_
          refine J_sub [1, 2, 3, 0] rfl ?_
          exact ih x2 (x3 + 1) h
        · have h := ite_t c9 h
          refine J_inc (j := 2) (k := 1) (lv' := [(2, .int (x2 + 1)), (0, rf x0), (1, .int x1), (3, .int x3)]) hC dX2_rootsOfSign_38 (by decide) rfl (by decide) rfl ?_
          refine J_inc (j := 3) (k := 1) (lv' := [(3, .int (x3 + 1)), (2, .int (x2 + 1)), (0, rf x0), (1, .int x1)]) hC dX2_rootsOfSign_41 (by decide) rfl (by decide) rfl ?_
          refine J_goto (tgt := 4) hC dX2_rootsOfSign_44 (by decide) ?_
          refine J_sub [2, 3, 1, 0] rfl ?_
          exact ih (x2 + 1) (x3 + 1) h
set_option maxHeartbeats 4000000 in
set_option maxRecDepth 100000 in
theorem cX2_rootsOfSign_ok (M : Mem) (a0 : Option Nat) (a1 : Int32) (r0 : Int32) (h : fX2_rootsOfSign M a0 a1 = some r0) : ∀ l : Launch, l.stackTraces = false → Con false l yX2_rootsOfSign cX2_rootsOfSign 4 (some .int) rm_X2_rootsOfSign [rf a0, .int a1] M (M, Sum.inr (some (Value.int r0))) := by
  intro l hst
  refine Con.enter hst (own := RX2) (by decide +kernel) rfl (by exact Nat.le_of_ble_eq_true rfl) (lv0 := [(0, rf a0), (1, .int a1)]) (rfl) (fun C hC hin => ?_)
  unfold fX2_rootsOfSign at h
  refine J_iconst (v := 0) hC dX2_rootsOfSign_0 (by decide) ?_
  refine J_istore_n (i := 2) (lv' := [(2, .int 0), (0, rf a0), (1, .int a1)]) rfl hC dX2_rootsOfSign_1 (by decide) rfl ?_
  refine J_iconst (v := 0) hC dX2_rootsOfSign_2 (by decide) ?_
  refine J_istore_n (i := 3) (lv' := [(3, .int 0), (2, .int 0), (0, rf a0), (1, .int a1)]) rfl hC dX2_rootsOfSign_3 (by decide) rfl ?_
  refine J_sub [2, 3, 1, 0] rfl ?_
  refine tX2_rootsOfSign_4 M a0 a1 hC _ (fun x10 x11 h => ?_) FU 0 0 h
  · refine J_iload_n (j := 2) hC dX2_rootsOfSign_47 rfl ?_
    exact J_iret hC dX2_rootsOfSign_48 (by have h9 := Option.some.inj h; subst h9; rfl) (Nat.le_of_ble_eq_true rfl) (Nat.le_of_ble_eq_true rfl)
abbrev rm_X2_withRootOne : Room := { frames := 3, cells := 0, slots := 0, locals := 64 }

set_option maxHeartbeats 4000000 in
set_option maxRecDepth 100000 in
theorem tX2_withRootOne_4 {C : JC} {r0 : Int32} (M : Mem) (x0 : Option Nat) (hC : Ok C false cX2_withRootOne 3 rm_X2_withRootOne (some .int) RX2 (M, Sum.inr (some (Value.int r0))))  (k34 : Int32 → Int32 → Option (Int32)) (hk34 : ∀ (x1 : Int32) (x2 : Int32), k34 x1 x2 = some r0 → J C 0 0 M 34 [(0, rf x0), (1, .int x1), (2, .int x2)] []) : ∀ (n : Nat) (x1 : Int32) (x2 : Int32), fX2_withRootOne_4 M x0 k34 n x1 x2 = some r0 → J C 0 0 M 4 [(0, rf x0), (1, .int x1), (2, .int x2)] [] := by
  intro n
  induction n with
  | zero => intro x1 x2 h; have h : none = some r0 := h; cases h
  | succ n ih =>
    intro x1 x2 h
    rw [fX2_withRootOne_4] at h
    refine J_iload_n (j := 2) hC dX2_withRootOne_4 rfl ?_
    refine J_iconst (v := 5) hC dX2_withRootOne_5 (by decide) ?_
    refine J_icmp_ge (tgt := 34) hC dX2_withRootOne_6 (by decide) (fun c1 => ?_) (fun c1 => ?_)
    · have h := ite_t c1 h
      refine J_sub [0, 1, 2] rfl ?_
      exact hk34 x1 x2 h
    · have h := ite_f c1 h
      refine J_aload_n (j := 0) hC dX2_withRootOne_9 rfl ?_
      refine J_g2_0 hC k_X2_12 dX2_withRootOne_10 h (fun v2 _ h => ?_)
      refine J_g1_0 hC k_X2_69 dX2_withRootOne_13 h (fun v3 _ h => ?_)
      refine J_iload_n (j := 2) hC dX2_withRootOne_16 rfl ?_
      refine J_aald9 hC dX2_withRootOne_17 h (fun v4 _ h => ?_)
      refine J_iconst (v := 1) hC dX2_withRootOne_18 (by decide) ?_
      refine bnd_c h (fun w5 hw h => ?_)
      refine J_callS (As := [rf v4, .int 1]) (M' := M) (rv := some (Value.int w5)) (st := []) hC (fun l hl => cX2_hasRoot_ok M v4 1 _ hw l hl) sm_X2_hasRoot k_X2_165 rfl ⟨Nat.le_of_ble_eq_true rfl, Nat.le_of_ble_eq_true rfl⟩ (Nat.zero_le _) ⟨Nat.le_of_ble_eq_true rfl, Nat.le_of_ble_eq_true rfl⟩ dX2_withRootOne_19 rfl ?_
      refine J_if_eq (tgt := 28) hC dX2_withRootOne_22 (by decide) (fun c6 => ?_) (fun c6 => ?_)
      · have h := ite_t c6 h
        refine J_inc (j := 2) (k := 1) (lv' := [(2, .int (x2 + 1)), (0, rf x0), (1, .int x1)]) hC dX2_withRootOne_28 (by decide) rfl (by decide) rfl ?_
        refine J_goto (tgt := 4) hC dX2_withRootOne_31 (by decide) ?_
        refine J_sub [1, 2, 0] rfl ?_
        exact ih x1 (x2 + 1) h
      · have h := ite_f c6 h
        refine J_inc (j := 1) (k := 1) (lv' := [(1, .int (x1 + 1)), (0, rf x0), (2, .int x2)]) hC dX2_withRootOne_25 (by decide) rfl (by decide) rfl ?_
        refine J_inc (j := 2) (k := 1) (lv' := [(2, .int (x2 + 1)), (1, .int (x1 + 1)), (0, rf x0)]) hC dX2_withRootOne_28 (by decide) rfl (by decide) rfl ?_
        refine J_goto (tgt := 4) hC dX2_withRootOne_31 (by decide) ?_
        refine J_sub [2, 1, 0] rfl ?_
        exact ih (x1 + 1) (x2 + 1) h
set_option maxHeartbeats 4000000 in
set_option maxRecDepth 100000 in
theorem cX2_withRootOne_ok (M : Mem) (a0 : Option Nat) (r0 : Int32) (h : fX2_withRootOne M a0 = some r0) : ∀ l : Launch, l.stackTraces = false → Con false l yX2_withRootOne cX2_withRootOne 3 (some .int) rm_X2_withRootOne [rf a0] M (M, Sum.inr (some (Value.int r0))) := by
  intro l hst
  refine Con.enter hst (own := RX2) (by decide +kernel) rfl (by exact Nat.le_of_ble_eq_true rfl) (lv0 := [(0, rf a0)]) (rfl) (fun C hC hin => ?_)
  unfold fX2_withRootOne at h
  refine J_iconst (v := 0) hC dX2_withRootOne_0 (by decide) ?_
  refine J_istore_n (i := 1) (lv' := [(1, .int 0), (0, rf a0)]) rfl hC dX2_withRootOne_1 (by decide) rfl ?_
  refine J_iconst (v := 0) hC dX2_withRootOne_2 (by decide) ?_
  refine J_istore_n (i := 2) (lv' := [(2, .int 0), (1, .int 0), (0, rf a0)]) rfl hC dX2_withRootOne_3 (by decide) rfl ?_
  refine J_sub [2, 1, 0] rfl ?_
  refine tX2_withRootOne_4 M a0 hC _ (fun x7 x8 h => ?_) FU 0 0 h
  · refine J_iload_n (j := 1) hC dX2_withRootOne_34 rfl ?_
    exact J_iret hC dX2_withRootOne_35 (by have h9 := Option.some.inj h; subst h9; rfl) (Nat.le_of_ble_eq_true rfl) (Nat.le_of_ble_eq_true rfl)
abbrev rm_X2_count : Room := { frames := 4, cells := 0, slots := 0, locals := 86 }

set_option maxHeartbeats 4000000 in
set_option maxRecDepth 100000 in
theorem cX2_count_ok (M : Mem) (a0 : Option Nat) (a1 : Int32) (r0 : Int32) (h : fX2_count M a0 a1 = some r0) : ∀ l : Launch, l.stackTraces = false → Con false l yX2_count cX2_count 2 (some .int) rm_X2_count [rf a0, .int a1] M (M, Sum.inr (some (Value.int r0))) := by
  intro l hst
  refine Con.enter hst (own := RX2) (by decide +kernel) rfl (by exact Nat.le_of_ble_eq_true rfl) (lv0 := [(0, rf a0), (1, .int a1)]) (rfl) (fun C hC hin => ?_)
  unfold fX2_count at h
  refine J_iload_n (j := 1) hC dX2_count_0 rfl ?_
  refine J_bipush (v := 8) hC dX2_count_1 (by decide) ?_
  refine bnd_c h (fun w1 hw h => ?_)
  refine J_callS (As := [.int a1, .int 8]) (M' := M) (rv := none) (st := []) hC (fun l hl => cX2_checkWhat_ok M a1 8 _ hw l hl) sm_X2_checkWhat k_X2_151 rfl ⟨Nat.le_of_ble_eq_true rfl, Nat.le_of_ble_eq_true rfl⟩ (Nat.zero_le _) ⟨Nat.le_of_ble_eq_true rfl, Nat.le_of_ble_eq_true rfl⟩ dX2_count_3 rfl ?_
  refine J_iload_n (j := 1) hC dX2_count_6 rfl ?_
  refine ite_c h (fun c0 h => ?_) (fun c0 h => ?_)
  · refine J_tabIn (tgt := 48) (off := 41) (k := 0) hC dX2_count_7 c0 (by decide) (by decide) (by decide +kernel) (by decide) ?_
    refine J_aload_n (j := 0) hC dX2_count_48 rfl ?_
    refine J_g2_0 hC k_X2_12 dX2_count_49 h (fun v3 _ h => ?_)
    refine J_g1_2 hC k_X2_107 dX2_count_52 h (fun v4 _ h => ?_)
    exact J_iret hC dX2_count_55 (by have h9 := Option.some.inj h; subst h9; rfl) (Nat.le_of_ble_eq_true rfl) (Nat.le_of_ble_eq_true rfl)
  · refine ite_c h (fun c1 h => ?_) (fun c1 h => ?_)
    · refine J_tabIn (tgt := 56) (off := 49) (k := 1) hC dX2_count_7 c1 (by decide) (by decide) (by decide +kernel) (by decide) ?_
      refine J_aload_n (j := 0) hC dX2_count_56 rfl ?_
      refine J_iconst (v := 1) hC dX2_count_57 (by decide) ?_
      refine ck_c h (fun ho h => ?_)
      refine bnd_c h (fun w5 hw h => ?_)
      refine J_callV (As := [.int 1]) (M' := M) (rv := some (Value.int w5)) (st := []) hC (fun l hl => cX2_rootsOfSign_ok M a0 1 _ hw l hl) vm_X2_rootsOfSign k_X2_185 ho ⟨rfl, rfl⟩ rfl ⟨Nat.le_of_ble_eq_true rfl, Nat.le_of_ble_eq_true rfl⟩ (Nat.zero_le _) ⟨Nat.le_of_ble_eq_true rfl, Nat.le_of_ble_eq_true rfl⟩ dX2_count_58 rfl ?_
      exact J_iret hC dX2_count_61 (by have h9 := Option.some.inj h; subst h9; rfl) (Nat.le_of_ble_eq_true rfl) (Nat.le_of_ble_eq_true rfl)
    · refine ite_c h (fun c2 h => ?_) (fun c2 h => ?_)
      · refine J_tabIn (tgt := 62) (off := 55) (k := 2) hC dX2_count_7 c2 (by decide) (by decide) (by decide +kernel) (by decide) ?_
        refine J_aload_n (j := 0) hC dX2_count_62 rfl ?_
        refine J_iconst (v := (-1)) hC dX2_count_63 (by decide) ?_
        refine ck_c h (fun ho h => ?_)
        refine bnd_c h (fun w6 hw h => ?_)
        refine J_callV (As := [.int (-1)]) (M' := M) (rv := some (Value.int w6)) (st := []) hC (fun l hl => cX2_rootsOfSign_ok M a0 (-1) _ hw l hl) vm_X2_rootsOfSign k_X2_185 ho ⟨rfl, rfl⟩ rfl ⟨Nat.le_of_ble_eq_true rfl, Nat.le_of_ble_eq_true rfl⟩ (Nat.zero_le _) ⟨Nat.le_of_ble_eq_true rfl, Nat.le_of_ble_eq_true rfl⟩ dX2_count_64 rfl ?_
        exact J_iret hC dX2_count_67 (by have h9 := Option.some.inj h; subst h9; rfl) (Nat.le_of_ble_eq_true rfl) (Nat.le_of_ble_eq_true rfl)
      · refine ite_c h (fun c3 h => ?_) (fun c3 h => ?_)
        · refine J_tabIn (tgt := 68) (off := 61) (k := 3) hC dX2_count_7 c3 (by decide) (by decide) (by decide +kernel) (by decide) ?_
          refine J_aload_n (j := 0) hC dX2_count_68 rfl ?_
          refine J_iconst (v := 0) hC dX2_count_69 (by decide) ?_
          refine ck_c h (fun ho h => ?_)
          refine bnd_c h (fun w7 hw h => ?_)
          refine J_callV (As := [.int 0]) (M' := M) (rv := some (Value.int w7)) (st := []) hC (fun l hl => cX2_rootsOfSign_ok M a0 0 _ hw l hl) vm_X2_rootsOfSign k_X2_185 ho ⟨rfl, rfl⟩ rfl ⟨Nat.le_of_ble_eq_true rfl, Nat.le_of_ble_eq_true rfl⟩ (Nat.zero_le _) ⟨Nat.le_of_ble_eq_true rfl, Nat.le_of_ble_eq_true rfl⟩ dX2_count_70 rfl ?_
          exact J_iret hC dX2_count_73 (by have h9 := Option.some.inj h; subst h9; rfl) (Nat.le_of_ble_eq_true rfl) (Nat.le_of_ble_eq_true rfl)
        · refine ite_c h (fun c4 h => ?_) (fun c4 h => ?_)
          · refine J_tabIn (tgt := 74) (off := 67) (k := 4) hC dX2_count_7 c4 (by decide) (by decide) (by decide +kernel) (by decide) ?_
            refine J_aload_n (j := 0) hC dX2_count_74 rfl ?_
            refine J_g2_0 hC k_X2_12 dX2_count_75 h (fun v8 _ h => ?_)
            refine J_g1_3 hC k_X2_97 dX2_count_78 h (fun v9 _ h => ?_)
            exact J_iret hC dX2_count_81 (by have h9 := Option.some.inj h; subst h9; rfl) (Nat.le_of_ble_eq_true rfl) (Nat.le_of_ble_eq_true rfl)
          · refine ite_c h (fun c5 h => ?_) (fun c5 h => ?_)
            · refine J_tabIn (tgt := 82) (off := 75) (k := 5) hC dX2_count_7 c5 (by decide) (by decide) (by decide +kernel) (by decide) ?_
              refine J_aload_n (j := 0) hC dX2_count_82 rfl ?_
              refine J_g2_0 hC k_X2_12 dX2_count_83 h (fun v10 _ h => ?_)
              refine J_g1_4 hC k_X2_77 dX2_count_86 h (fun v11 _ h => ?_)
              exact J_iret hC dX2_count_89 (by have h9 := Option.some.inj h; subst h9; rfl) (Nat.le_of_ble_eq_true rfl) (Nat.le_of_ble_eq_true rfl)
            · refine ite_c h (fun c6 h => ?_) (fun c6 h => ?_)
              · refine J_tabIn (tgt := 90) (off := 83) (k := 6) hC dX2_count_7 c6 (by decide) (by decide) (by decide +kernel) (by decide) ?_
                refine J_aload_n (j := 0) hC dX2_count_90 rfl ?_
                refine ck_c h (fun ho h => ?_)
                refine bnd_c h (fun w12 hw h => ?_)
                refine J_callV (As := []) (M' := M) (rv := some (Value.int w12)) (st := []) hC (fun l hl => cX2_withRootOne_ok M a0 _ hw l hl) vm_X2_withRootOne k_X2_188 ho ⟨rfl, rfl⟩ rfl ⟨Nat.le_of_ble_eq_true rfl, Nat.le_of_ble_eq_true rfl⟩ (Nat.zero_le _) ⟨Nat.le_of_ble_eq_true rfl, Nat.le_of_ble_eq_true rfl⟩ dX2_count_91 rfl ?_
                exact J_iret hC dX2_count_94 (by have h9 := Option.some.inj h; subst h9; rfl) (Nat.le_of_ble_eq_true rfl) (Nat.le_of_ble_eq_true rfl)
              · have hd9 : a1.toInt < 0 ∨ 6 < a1.toInt := by
                  have e0 := ne_toInt c0
                  have e1 := ne_toInt c1
                  have e2 := ne_toInt c2
                  have e3 := ne_toInt c3
                  have e4 := ne_toInt c4
                  have e5 := ne_toInt c5
                  have e6 := ne_toInt c6
                  skip
                  have f0 : (0 : Int32).toInt = 0 := by decide
                  have f1 : (1 : Int32).toInt = 1 := by decide
                  have f2 : (2 : Int32).toInt = 2 := by decide
                  have f3 : (3 : Int32).toInt = 3 := by decide
                  have f4 : (4 : Int32).toInt = 4 := by decide
                  have f5 : (5 : Int32).toInt = 5 := by decide
                  have f6 : (6 : Int32).toInt = 6 := by decide
                  omega
                refine J_tableOut (tgt := 95) hC dX2_count_7 hd9 (by decide) ?_
                refine J_aload_n (j := 0) hC dX2_count_95 rfl ?_
                refine J_g2_2 hC k_X2_20 dX2_count_96 h (fun v2 _ h => ?_)
                exact J_iret hC dX2_count_99 (by have h9 := Option.some.inj h; subst h9; rfl) (Nat.le_of_ble_eq_true rfl) (Nat.le_of_ble_eq_true rfl)
abbrev rm_X2_shareOf : Room := { frames := 3, cells := 0, slots := 0, locals := 67 }

set_option maxHeartbeats 4000000 in
set_option maxRecDepth 100000 in
theorem cX2_shareOf_ok (M : Mem) (a0 : Option Nat) (r0 : UInt64) (h : fX2_shareOf M a0 = some r0) : ∀ l : Launch, l.stackTraces = false → Con false l yX2_shareOf cX2_shareOf 3 (some .double) rm_X2_shareOf [rf a0] M (M, Sum.inr (some (Value.double r0))) := by
  intro l hst
  refine Con.enter hst (own := RX2) (by decide +kernel) rfl (by exact Nat.le_of_ble_eq_true rfl) (lv0 := [(0, rf a0)]) (rfl) (fun C hC hin => ?_)
  unfold fX2_shareOf at h
  refine J_aload_n (j := 0) hC dX2_shareOf_0 rfl ?_
  refine bnd_c h (fun w1 hw h => ?_)
  refine J_callS (As := [rf a0]) (M' := M) (rv := some (Value.int w1)) (st := []) hC (fun l hl => cX2_degreeOf_ok M a0 _ hw l hl) sm_X2_degreeOf k_X2_80 rfl ⟨Nat.le_of_ble_eq_true rfl, Nat.le_of_ble_eq_true rfl⟩ (Nat.zero_le _) ⟨Nat.le_of_ble_eq_true rfl, Nat.le_of_ble_eq_true rfl⟩ dX2_shareOf_1 rfl ?_
  refine J_istore_n (i := 1) (lv' := [(1, .int w1), (0, rf a0)]) rfl hC dX2_shareOf_4 (by decide) rfl ?_
  refine J_iload_n (j := 0) hC dX2_shareOf_5 rfl ?_
  refine J_if_ne (tgt := 11) hC dX2_shareOf_6 (by decide) (fun c2 => ?_) (fun c2 => ?_)
  · have h := ite_f c2 h
    refine J_aload_n (j := 1) hC dX2_shareOf_11 rfl ?_
    refine J_iconst (v := 1) hC dX2_shareOf_12 (by decide) ?_
    refine bnd_c h (fun w3 hw h => ?_)
    refine J_callS (As := [rf a0, .int 1]) (M' := M) (rv := some (Value.int w3)) (st := []) hC (fun l hl => cX2_countedTimes_ok M a0 1 _ hw l hl) sm_X2_countedTimes k_X2_168 rfl ⟨Nat.le_of_ble_eq_true rfl, Nat.le_of_ble_eq_true rfl⟩ (Nat.zero_le _) ⟨Nat.le_of_ble_eq_true rfl, Nat.le_of_ble_eq_true rfl⟩ dX2_shareOf_13 rfl ?_
    refine J_aload_n (j := 1) hC dX2_shareOf_16 rfl ?_
    refine J_iconst (v := (-1)) hC dX2_shareOf_17 (by decide) ?_
    refine bnd_c h (fun w4 hw h => ?_)
    refine J_callS (As := [rf a0, .int (-1)]) (M' := M) (rv := some (Value.int w4)) (st := [.int w3]) hC (fun l hl => cX2_countedTimes_ok M a0 (-1) _ hw l hl) sm_X2_countedTimes k_X2_168 rfl ⟨Nat.le_of_ble_eq_true rfl, Nat.le_of_ble_eq_true rfl⟩ (Nat.le_of_ble_eq_true rfl) ⟨Nat.le_of_ble_eq_true rfl, Nat.le_of_ble_eq_true rfl⟩ dX2_shareOf_18 rfl ?_
    refine J_iadd hC dX2_shareOf_21 ?_
    refine J_aload_n (j := 1) hC dX2_shareOf_22 rfl ?_
    refine J_iconst (v := 0) hC dX2_shareOf_23 (by decide) ?_
    refine bnd_c h (fun w5 hw h => ?_)
    refine J_callS (As := [rf a0, .int 0]) (M' := M) (rv := some (Value.int w5)) (st := [.int (w3 + w4)]) hC (fun l hl => cX2_countedTimes_ok M a0 0 _ hw l hl) sm_X2_countedTimes k_X2_168 rfl ⟨Nat.le_of_ble_eq_true rfl, Nat.le_of_ble_eq_true rfl⟩ (Nat.le_of_ble_eq_true rfl) ⟨Nat.le_of_ble_eq_true rfl, Nat.le_of_ble_eq_true rfl⟩ dX2_shareOf_24 rfl ?_
    refine J_iadd hC dX2_shareOf_27 ?_
    refine J_istore_n (i := 2) (lv' := [(2, .int ((w3 + w4) + w5)), (1, .int w1), (0, rf a0)]) rfl hC dX2_shareOf_28 (by decide) rfl ?_
    refine J_iload_n (j := 0) hC dX2_shareOf_29 rfl ?_
    refine J_i2d hC dX2_shareOf_30 ?_
    refine J_iload_n (j := 1) hC dX2_shareOf_31 rfl ?_
    refine J_i2d hC dX2_shareOf_32 ?_
    refine chk_c h (fun hn h => ?_)
    refine J_ddiv hC dX2_shareOf_33 (n64_of hn) ?_
    exact J_dret hC dX2_shareOf_34 (by have h9 := Option.some.inj h; subst h9; rfl) (Nat.le_of_ble_eq_true rfl) (Nat.le_of_ble_eq_true rfl)
  · have h := ite_t c2 h
    refine J_dconst1 hC dX2_shareOf_9 ?_
    exact J_dret hC dX2_shareOf_10 (by have h9 := Option.some.inj h; subst h9; rfl) (Nat.le_of_ble_eq_true rfl) (Nat.le_of_ble_eq_true rfl)
abbrev rm_X2_takenShare : Room := { frames := 4, cells := 0, slots := 0, locals := 89 }

set_option maxHeartbeats 4000000 in
set_option maxRecDepth 100000 in
theorem cX2_takenShare_ok (M : Mem) (a0 : Option Nat) (a1 : Int32) (r0 : UInt64) (h : fX2_takenShare M a0 a1 = some r0) : ∀ l : Launch, l.stackTraces = false → Con false l yX2_takenShare cX2_takenShare 2 (some .double) rm_X2_takenShare [rf a0, .int a1] M (M, Sum.inr (some (Value.double r0))) := by
  intro l hst
  refine Con.enter hst (own := RX2) (by decide +kernel) rfl (by exact Nat.le_of_ble_eq_true rfl) (lv0 := [(0, rf a0), (1, .int a1)]) (rfl) (fun C hC hin => ?_)
  unfold fX2_takenShare at h
  refine J_iload_n (j := 1) hC dX2_takenShare_0 rfl ?_
  refine bnd_c h (fun w1 hw h => ?_)
  refine J_callS (As := [.int a1]) (M' := M) (rv := none) (st := []) hC (fun l hl => cX2_checkNumber_ok M a1 _ hw l hl) sm_X2_checkNumber k_X2_56 rfl ⟨Nat.le_of_ble_eq_true rfl, Nat.le_of_ble_eq_true rfl⟩ (Nat.zero_le _) ⟨Nat.le_of_ble_eq_true rfl, Nat.le_of_ble_eq_true rfl⟩ dX2_takenShare_1 rfl ?_
  refine J_aload_n (j := 0) hC dX2_takenShare_4 rfl ?_
  refine J_g2_0 hC k_X2_12 dX2_takenShare_5 h (fun v2 _ h => ?_)
  refine J_g1_0 hC k_X2_69 dX2_takenShare_8 h (fun v3 _ h => ?_)
  refine J_iload_n (j := 1) hC dX2_takenShare_11 rfl ?_
  refine J_aald9 hC dX2_takenShare_12 h (fun v4 _ h => ?_)
  refine bnd_c h (fun w5 hw h => ?_)
  refine J_callS (As := [rf v4]) (M' := M) (rv := some (Value.double w5)) (st := []) hC (fun l hl => cX2_shareOf_ok M v4 _ hw l hl) sm_X2_shareOf k_X2_191 rfl ⟨Nat.le_of_ble_eq_true rfl, Nat.le_of_ble_eq_true rfl⟩ (Nat.zero_le _) ⟨Nat.le_of_ble_eq_true rfl, Nat.le_of_ble_eq_true rfl⟩ dX2_takenShare_13 rfl ?_
  exact J_dret hC dX2_takenShare_16 (by have h9 := Option.some.inj h; subst h9; rfl) (Nat.le_of_ble_eq_true rfl) (Nat.le_of_ble_eq_true rfl)
abbrev rm_L_cell : Room := { frames := 0, cells := 0, slots := 0, locals := 0 }

set_option maxHeartbeats 4000000 in
set_option maxRecDepth 100000 in
theorem cL_cell_ok (xs : Nat → Int32) (L : Nat) (M : Mem) (b : Nat) (a1 : Int32) (r0 : Int32) (h : fL_cell xs L M a1 = some r0) : ∀ l : Launch, l.stackTraces = false → ConS b L xs l yL_cell cL_cell 2 (some .int) rm_L_cell [.ref b, .int a1] M (M, Sum.inr (some (Value.int r0))) := by
  intro l hst
  refine ConS.enter hst (own := RL) (by decide +kernel) rfl (by exact Nat.le_of_ble_eq_true rfl) (lv0 := [(0, .ref b), (1, .int a1)]) rfl (fun C hC hSc => ?_)
  unfold fL_cell at h
  refine J_iload_n (j := 1) hC dL_cell_0 rfl ?_
  refine J_aloadQ_n (j := 0) hC dL_cell_1 rfl ?_
  refine J_slen hC hSc dL_cell_2 ?_
  refine J_icmp_ge (tgt := 12) hC dL_cell_3 (by decide) (fun c1 => ?_) (fun c1 => ?_)
  · have h := ite_t c1 h
    refine J_sipush (v := 7919) hC dL_cell_12 (by decide) ?_
    refine J_iload_n (j := 1) hC dL_cell_15 rfl ?_
    refine J_iconst (v := 3) hC dL_cell_16 (by decide) ?_
    refine J_iadd hC dL_cell_17 ?_
    refine J_imul hC dL_cell_18 ?_
    refine J_iload_n (j := 1) hC dL_cell_19 rfl ?_
    refine J_bipush (v := 11) hC dL_cell_20 (by decide) ?_
    refine J_iadd hC dL_cell_22 ?_
    refine J_imul hC dL_cell_23 ?_
    exact J_iret hC dL_cell_24 (by have h9 := Option.some.inj h; subst h9; rfl) (Nat.le_of_ble_eq_true rfl) (Nat.le_of_ble_eq_true rfl)
  · have h := ite_f c1 h
    refine J_aloadQ_n (j := 0) hC dL_cell_6 rfl ?_
    refine J_iload_n (j := 1) hC dL_cell_7 rfl ?_
    refine J_sld hC hSc dL_cell_8 h (fun v2 _ h => ?_)
    refine J_goto (tgt := 24) hC dL_cell_9 (by decide) ?_
    exact J_iret hC dL_cell_24 (by have h9 := Option.some.inj h; subst h9; rfl) (Nat.le_of_ble_eq_true rfl) (Nat.le_of_ble_eq_true rfl)
abbrev rm_L_low : Room := { frames := 0, cells := 0, slots := 0, locals := 0 }

set_option maxHeartbeats 4000000 in
set_option maxRecDepth 100000 in
theorem cL_low_ok (M : Mem) (a0 : Int32) (a1 : Int32) (r0 : Int32) (h : fL_low M a0 a1 = some r0) : ∀ l : Launch, l.stackTraces = false → Con false l yL_low cL_low 2 (some .int) rm_L_low [.int a0, .int a1] M (M, Sum.inr (some (Value.int r0))) := by
  intro l hst
  refine Con.enter hst (own := RL) (by decide +kernel) rfl (by exact Nat.le_of_ble_eq_true rfl) (lv0 := [(0, .int a0), (1, .int a1)]) (rfl) (fun C hC hin => ?_)
  unfold fL_low at h
  refine J_iload_n (j := 0) hC dL_low_0 rfl ?_
  refine J_ldc (v := 2147483647) hC k_L_7 dL_low_1 ?_
  refine J_iand hC dL_low_3 ?_
  refine J_iload_n (j := 1) hC dL_low_4 rfl ?_
  refine chk_c h (fun hn h => ?_)
  refine J_irem hC dL_low_5 (ne_of_chk hn) ?_
  exact J_iret hC dL_low_6 (by have h9 := Option.some.inj h; subst h9; rfl) (Nat.le_of_ble_eq_true rfl) (Nat.le_of_ble_eq_true rfl)
abbrev rm_L_told : Room := { frames := 5, cells := 0, slots := 0, locals := 107 }

set_option maxHeartbeats 4000000 in
set_option maxRecDepth 100000 in
theorem tL_told_6 {C : JC} {r0 : Mem × Int64} (x0 : Option Nat) (hC : Ok C false cL_told 4 rm_L_told (some .long) RL (r0.1, Sum.inr (some (Value.long r0.2))))  (k31 : Mem → Int64 → Int32 → Option (Mem × Int64)) (hk31 : ∀ (M : Mem) (x1 : Int64) (x3 : Int32), k31 M x1 x3 = some r0 → J C 0 0 M 31 [(0, rf x0), (1, .long x1), (3, .int x3)] []) : ∀ (n : Nat) (M : Mem) (x1 : Int64) (x3 : Int32), fL_told_6 x0 k31 n M x1 x3 = some r0 → J C 0 0 M 6 [(0, rf x0), (1, .long x1), (3, .int x3)] [] := by
  intro n
  induction n with
  | zero => intro M x1 x3 h; have h : none = some r0 := h; cases h
  | succ n ih =>
    intro M x1 x3 h
    rw [fL_told_6] at h
    refine J_iload_n (j := 2) hC dL_told_6 rfl ?_
    refine J_bipush (v := 7) hC dL_told_7 (by decide) ?_
    refine J_icmp_ge (tgt := 31) hC dL_told_9 (by decide) (fun c1 => ?_) (fun c1 => ?_)
    · have h := ite_t c1 h
      refine J_sub [0, 1, 2] rfl ?_
      exact hk31 M x1 x3 h
    · have h := ite_f c1 h
      refine J_ldc2 (v := 31) hC k_L_10 dL_told_12 ?_
      refine J_lload_n (j := 1) hC dL_told_15 rfl ?_
      refine J_lmul hC dL_told_16 ?_
      refine J_aload_n (j := 0) hC dL_told_17 rfl ?_
      refine J_iload_n (j := 2) hC dL_told_18 rfl ?_
      refine ck_c h (fun ho h => ?_)
      refine bnd_c h (fun w2 hw h => ?_)
      refine J_callV (As := [.int x3]) (M' := M) (rv := some (Value.int w2)) (st := [.long (31 * x1)]) hC (fun l hl => cX2_count_ok M x0 x3 _ hw l hl) vm_X2_count k_L_12 ho ⟨rfl, rfl⟩ rfl ⟨Nat.le_of_ble_eq_true rfl, Nat.le_of_ble_eq_true rfl⟩ (Nat.le_of_ble_eq_true rfl) ⟨Nat.le_of_ble_eq_true rfl, Nat.le_of_ble_eq_true rfl⟩ dL_told_19 rfl ?_
      refine J_i2l hC dL_told_22 ?_
      refine J_ladd hC dL_told_23 ?_
      refine J_lstore_n (i := 1) (lv' := [(1, .long ((31 * x1) + w2.toInt64)), (0, rf x0), (3, .int x3)]) rfl hC dL_told_24 (by decide) rfl ?_
      refine J_inc (j := 2) (k := 1) (lv' := [(3, .int (x3 + 1)), (1, .long ((31 * x1) + w2.toInt64)), (0, rf x0)]) hC dL_told_25 (by decide) rfl (by decide) rfl ?_
      refine J_goto (tgt := 6) hC dL_told_28 (by decide) ?_
      refine J_sub [2, 1, 0] rfl ?_
      exact ih M ((31 * x1) + w2.toInt64) (x3 + 1) h
set_option maxHeartbeats 4000000 in
set_option maxRecDepth 100000 in
theorem tL_told_33 {C : JC} {r0 : Mem × Int64} (x0 : Option Nat) (hC : Ok C false cL_told 4 rm_L_told (some .long) RL (r0.1, Sum.inr (some (Value.long r0.2))))  (k58 : Mem → Int64 → Int32 → Option (Mem × Int64)) (hk58 : ∀ (M : Mem) (x1 : Int64) (x3 : Int32), k58 M x1 x3 = some r0 → J C 0 0 M 58 [(0, rf x0), (1, .long x1), (3, .int x3)] []) : ∀ (n : Nat) (M : Mem) (x1 : Int64) (x3 : Int32), fL_told_33 x0 k58 n M x1 x3 = some r0 → J C 0 0 M 33 [(0, rf x0), (1, .long x1), (3, .int x3)] [] := by
  intro n
  induction n with
  | zero => intro M x1 x3 h; have h : none = some r0 := h; cases h
  | succ n ih =>
    intro M x1 x3 h
    rw [fL_told_33] at h
    refine J_iload_n (j := 2) hC dL_told_33 rfl ?_
    refine J_iconst (v := 5) hC dL_told_34 (by decide) ?_
    refine J_icmp_ge (tgt := 58) hC dL_told_35 (by decide) (fun c6 => ?_) (fun c6 => ?_)
    · have h := ite_t c6 h
      refine J_sub [0, 1, 2] rfl ?_
      exact hk58 M x1 x3 h
    · have h := ite_f c6 h
      refine J_ldc2 (v := 31) hC k_L_10 dL_told_38 ?_
      refine J_lload_n (j := 1) hC dL_told_41 rfl ?_
      refine J_lmul hC dL_told_42 ?_
      refine J_aload_n (j := 0) hC dL_told_43 rfl ?_
      refine J_iload_n (j := 2) hC dL_told_44 rfl ?_
      refine J_iconst (v := 3) hC dL_told_45 (by decide) ?_
      refine ck_c h (fun ho h => ?_)
      refine bnd_c h (fun w7 hw h => ?_)
      refine J_callV (As := [.int x3, .int 3]) (M' := M) (rv := some (Value.int w7)) (st := [.long (31 * x1)]) hC (fun l hl => cX2_of_ok M x0 x3 3 _ hw l hl) vm_X2_of k_L_18 ho ⟨rfl, rfl⟩ rfl ⟨Nat.le_of_ble_eq_true rfl, Nat.le_of_ble_eq_true rfl⟩ (Nat.le_of_ble_eq_true rfl) ⟨Nat.le_of_ble_eq_true rfl, Nat.le_of_ble_eq_true rfl⟩ dL_told_46 rfl ?_
      refine J_i2l hC dL_told_49 ?_
      refine J_ladd hC dL_told_50 ?_
      refine J_lstore_n (i := 1) (lv' := [(1, .long ((31 * x1) + w7.toInt64)), (0, rf x0), (3, .int x3)]) rfl hC dL_told_51 (by decide) rfl ?_
      refine J_inc (j := 2) (k := 1) (lv' := [(3, .int (x3 + 1)), (1, .long ((31 * x1) + w7.toInt64)), (0, rf x0)]) hC dL_told_52 (by decide) rfl (by decide) rfl ?_
      refine J_goto (tgt := 33) hC dL_told_55 (by decide) ?_
      refine J_sub [2, 1, 0] rfl ?_
      exact ih M ((31 * x1) + w7.toInt64) (x3 + 1) h
set_option maxHeartbeats 4000000 in
set_option maxRecDepth 100000 in
theorem tL_told_60 {C : JC} {r0 : Mem × Int64} (x0 : Option Nat) (hC : Ok C false cL_told 4 rm_L_told (some .long) RL (r0.1, Sum.inr (some (Value.long r0.2))))  (k84 : Mem → Int64 → Int32 → Option (Mem × Int64)) (hk84 : ∀ (M : Mem) (x1 : Int64) (x3 : Int32), k84 M x1 x3 = some r0 → J C 0 0 M 84 [(0, rf x0), (1, .long x1), (3, .int x3)] []) : ∀ (n : Nat) (M : Mem) (x1 : Int64) (x3 : Int32), fL_told_60 x0 k84 n M x1 x3 = some r0 → J C 0 0 M 60 [(0, rf x0), (1, .long x1), (3, .int x3)] [] := by
  intro n
  induction n with
  | zero => intro M x1 x3 h; have h : none = some r0 := h; cases h
  | succ n ih =>
    intro M x1 x3 h
    rw [fL_told_60] at h
    refine J_iload_n (j := 2) hC dL_told_60 rfl ?_
    refine J_bipush (v := 9) hC dL_told_61 (by decide) ?_
    refine J_icmp_ge (tgt := 84) hC dL_told_63 (by decide) (fun c11 => ?_) (fun c11 => ?_)
    · have h := ite_t c11 h
      refine J_sub [0, 1, 2] rfl ?_
      exact hk84 M x1 x3 h
    · have h := ite_f c11 h
      refine J_ldc2 (v := 31) hC k_L_10 dL_told_66 ?_
      refine J_lload_n (j := 1) hC dL_told_69 rfl ?_
      refine J_lmul hC dL_told_70 ?_
      refine J_aload_n (j := 0) hC dL_told_71 rfl ?_
      refine J_iload_n (j := 2) hC dL_told_72 rfl ?_
      refine ck_c h (fun ho h => ?_)
      refine bnd_c h (fun w12 hw h => ?_)
      refine J_callV (As := [.int x3]) (M' := w12.1) (rv := some (Value.long w12.2)) (st := [.long (31 * x1)]) hC (fun l hl => cX2_coefficient_ok M x0 x3 _ hw l hl) vm_X2_coefficient k_L_22 ho ⟨rfl, rfl⟩ rfl ⟨Nat.le_of_ble_eq_true rfl, Nat.le_of_ble_eq_true rfl⟩ (Nat.le_of_ble_eq_true rfl) ⟨Nat.le_of_ble_eq_true rfl, Nat.le_of_ble_eq_true rfl⟩ dL_told_73 rfl ?_
      refine J_ladd hC dL_told_76 ?_
      refine J_lstore_n (i := 1) (lv' := [(1, .long ((31 * x1) + w12.2)), (0, rf x0), (3, .int x3)]) rfl hC dL_told_77 (by decide) rfl ?_
      refine J_inc (j := 2) (k := 1) (lv' := [(3, .int (x3 + 1)), (1, .long ((31 * x1) + w12.2)), (0, rf x0)]) hC dL_told_78 (by decide) rfl (by decide) rfl ?_
      refine J_goto (tgt := 60) hC dL_told_81 (by decide) ?_
      refine J_sub [2, 1, 0] rfl ?_
      exact ih w12.1 ((31 * x1) + w12.2) (x3 + 1) h
set_option maxHeartbeats 4000000 in
set_option maxRecDepth 100000 in
theorem cL_told_ok (M : Mem) (a0 : Option Nat) (r0 : Mem × Int64) (h : fL_told M a0 = some r0) : ∀ l : Launch, l.stackTraces = false → Con false l yL_told cL_told 4 (some .long) rm_L_told [rf a0] M (r0.1, Sum.inr (some (Value.long r0.2))) := by
  intro l hst
  refine Con.enter hst (own := RL) (by decide +kernel) rfl (by exact Nat.le_of_ble_eq_true rfl) (lv0 := [(0, rf a0)]) (rfl) (fun C hC hin => ?_)
  unfold fL_told at h
  refine J_ldc2 (v := 3) hC k_L_8 dL_told_0 ?_
  refine J_lstore_n (i := 1) (lv' := [(1, .long 3), (0, rf a0)]) rfl hC dL_told_3 (by decide) rfl ?_
  refine J_iconst (v := 0) hC dL_told_4 (by decide) ?_
  refine J_istore_n (i := 3) (lv' := [(3, .int 0), (1, .long 3), (0, rf a0)]) rfl hC dL_told_5 (by decide) rfl ?_
  refine J_sub [2, 1, 0] rfl ?_
  refine tL_told_6 a0 hC _ (fun M3 x4 x5 h => ?_) FU M 3 0 h
  · refine J_iconst (v := 0) hC dL_told_31 (by decide) ?_
    refine J_istore_n (i := 3) (lv' := [(3, .int 0), (0, rf a0), (1, .long x4)]) rfl hC dL_told_32 (by decide) rfl ?_
    refine J_sub [1, 2, 0] rfl ?_
    refine tL_told_33 a0 hC _ (fun M8 x9 x10 h => ?_) FU M3 x4 0 h
    · refine J_iconst (v := 0) hC dL_told_58 (by decide) ?_
      refine J_istore_n (i := 3) (lv' := [(3, .int 0), (0, rf a0), (1, .long x9)]) rfl hC dL_told_59 (by decide) rfl ?_
      refine J_sub [1, 2, 0] rfl ?_
      refine tL_told_60 a0 hC _ (fun M13 x14 x15 h => ?_) FU M8 x9 0 h
      · refine J_lload_n (j := 1) hC dL_told_84 rfl ?_
        exact J_lret hC dL_told_85 (by have h9 := Option.some.inj h; subst h9; rfl) (Nat.le_of_ble_eq_true rfl) (Nat.le_of_ble_eq_true rfl)
abbrev rm_L_act : Room := { frames := 18, cells := 0, slots := 0, locals := 486 }

set_option maxHeartbeats 4000000 in
set_option maxRecDepth 100000 in
theorem cL_act_ok (M : Mem) (a0 : Option Nat) (a1 : Int32) (a2 : Int32) (r0 : Mem × Int32) (h : fL_act M a0 a1 a2 = some r0) : ∀ l : Launch, l.stackTraces = false → Con false l yL_act cL_act 4 (some .int) rm_L_act [rf a0, .int a1, .int a2] M (r0.1, Sum.inr (some (Value.int r0.2))) := by
  intro l hst
  refine Con.enter hst (own := RL) (by decide +kernel) rfl (by exact Nat.le_of_ble_eq_true rfl) (lv0 := [(0, rf a0), (1, .int a1), (2, .int a2)]) (rfl) (fun C hC hin => ?_)
  unfold fL_act at h
  refine J_iload_n (j := 1) hC dL_act_0 rfl ?_
  refine J_iconst (v := 4) hC dL_act_1 (by decide) ?_
  refine J_ishr hC dL_act_2 ?_
  refine J_iconst (v := 5) hC dL_act_3 (by decide) ?_
  refine bnd_c h (fun w1 hw h => ?_)
  refine J_callS (As := [.int (a1 >>> ((4 : Int32) &&& 31)), .int 5]) (M' := M) (rv := some (Value.int w1)) (st := []) hC (fun l hl => cL_low_ok M (a1 >>> ((4 : Int32) &&& 31)) 5 _ hw l hl) sm_L_low k_L_26 rfl ⟨Nat.le_of_ble_eq_true rfl, Nat.le_of_ble_eq_true rfl⟩ (Nat.zero_le _) ⟨Nat.le_of_ble_eq_true rfl, Nat.le_of_ble_eq_true rfl⟩ dL_act_4 rfl ?_
  refine J_istore_n (i := 3) (lv' := [(3, .int w1), (0, rf a0), (1, .int a1), (2, .int a2)]) rfl hC dL_act_7 (by decide) rfl ?_
  refine J_iload_n (j := 2) hC dL_act_8 rfl ?_
  refine J_bipush (v := 15) hC dL_act_9 (by decide) ?_
  refine J_iand hC dL_act_11 ?_
  refine ite_c h (fun c0 h => ?_) (fun c0 h => ?_)
  · refine J_tabIn (tgt := 84) (off := 72) (k := 0) hC dL_act_12 c0 (by decide) (by decide) (by decide +kernel) (by decide) ?_
    refine J_aload_n (j := 1) hC dL_act_84 rfl ?_
    refine J_iload_n (j := 0) hC dL_act_85 rfl ?_
    refine J_iload_n (j := 3) hC dL_act_86 rfl ?_
    refine J_bipush (v := 9) hC dL_act_87 (by decide) ?_
    refine bnd_c h (fun w3 hw h => ?_)
    refine J_callS (As := [.int a2, .int 9]) (M' := M) (rv := some (Value.int w3)) (st := [.int w1, rf a0]) hC (fun l hl => cL_low_ok M a2 9 _ hw l hl) sm_L_low k_L_26 rfl ⟨Nat.le_of_ble_eq_true rfl, Nat.le_of_ble_eq_true rfl⟩ (Nat.le_of_ble_eq_true rfl) ⟨Nat.le_of_ble_eq_true rfl, Nat.le_of_ble_eq_true rfl⟩ dL_act_89 rfl ?_
    refine J_iload_n (j := 3) hC dL_act_92 rfl ?_
    refine J_iconst (v := 4) hC dL_act_93 (by decide) ?_
    refine J_ishr hC dL_act_94 ?_
    refine J_iconst (v := 3) hC dL_act_95 (by decide) ?_
    refine bnd_c h (fun w4 hw h => ?_)
    refine J_callS (As := [.int (a2 >>> ((4 : Int32) &&& 31)), .int 3]) (M' := M) (rv := some (Value.int w4)) (st := [.int w3, .int w1, rf a0]) hC (fun l hl => cL_low_ok M (a2 >>> ((4 : Int32) &&& 31)) 3 _ hw l hl) sm_L_low k_L_26 rfl ⟨Nat.le_of_ble_eq_true rfl, Nat.le_of_ble_eq_true rfl⟩ (Nat.le_of_ble_eq_true rfl) ⟨Nat.le_of_ble_eq_true rfl, Nat.le_of_ble_eq_true rfl⟩ dL_act_96 rfl ?_
    refine J_iconst (v := 1) hC dL_act_99 (by decide) ?_
    refine J_isub hC dL_act_100 ?_
    refine ck_c h (fun ho h => ?_)
    refine bnd_c h (fun w5 hw h => ?_)
    refine J_callV (As := [.int w1, .int w3, .int (w4 - 1)]) (M' := w5.1) (rv := some (Value.int w5.2)) (st := []) hC (fun l hl => cX2_put_ok M a0 w1 w3 (w4 - 1) _ hw l hl) vm_X2_put k_L_31 ho ⟨rfl, rfl⟩ rfl ⟨Nat.le_of_ble_eq_true rfl, Nat.le_of_ble_eq_true rfl⟩ (Nat.zero_le _) ⟨Nat.le_of_ble_eq_true rfl, Nat.le_of_ble_eq_true rfl⟩ dL_act_101 rfl ?_
    exact J_iret hC dL_act_104 (by have h9 := Option.some.inj h; subst h9; rfl) (Nat.le_of_ble_eq_true rfl) (Nat.le_of_ble_eq_true rfl)
  · refine ite_c h (fun c1 h => ?_) (fun c1 h => ?_)
    · refine J_tabIn (tgt := 84) (off := 72) (k := 1) hC dL_act_12 c1 (by decide) (by decide) (by decide +kernel) (by decide) ?_
      refine J_aload_n (j := 1) hC dL_act_84 rfl ?_
      refine J_iload_n (j := 0) hC dL_act_85 rfl ?_
      refine J_iload_n (j := 3) hC dL_act_86 rfl ?_
      refine J_bipush (v := 9) hC dL_act_87 (by decide) ?_
      refine bnd_c h (fun w6 hw h => ?_)
      refine J_callS (As := [.int a2, .int 9]) (M' := M) (rv := some (Value.int w6)) (st := [.int w1, rf a0]) hC (fun l hl => cL_low_ok M a2 9 _ hw l hl) sm_L_low k_L_26 rfl ⟨Nat.le_of_ble_eq_true rfl, Nat.le_of_ble_eq_true rfl⟩ (Nat.le_of_ble_eq_true rfl) ⟨Nat.le_of_ble_eq_true rfl, Nat.le_of_ble_eq_true rfl⟩ dL_act_89 rfl ?_
      refine J_iload_n (j := 3) hC dL_act_92 rfl ?_
      refine J_iconst (v := 4) hC dL_act_93 (by decide) ?_
      refine J_ishr hC dL_act_94 ?_
      refine J_iconst (v := 3) hC dL_act_95 (by decide) ?_
      refine bnd_c h (fun w7 hw h => ?_)
      refine J_callS (As := [.int (a2 >>> ((4 : Int32) &&& 31)), .int 3]) (M' := M) (rv := some (Value.int w7)) (st := [.int w6, .int w1, rf a0]) hC (fun l hl => cL_low_ok M (a2 >>> ((4 : Int32) &&& 31)) 3 _ hw l hl) sm_L_low k_L_26 rfl ⟨Nat.le_of_ble_eq_true rfl, Nat.le_of_ble_eq_true rfl⟩ (Nat.le_of_ble_eq_true rfl) ⟨Nat.le_of_ble_eq_true rfl, Nat.le_of_ble_eq_true rfl⟩ dL_act_96 rfl ?_
      refine J_iconst (v := 1) hC dL_act_99 (by decide) ?_
      refine J_isub hC dL_act_100 ?_
      refine ck_c h (fun ho h => ?_)
      refine bnd_c h (fun w8 hw h => ?_)
      refine J_callV (As := [.int w1, .int w6, .int (w7 - 1)]) (M' := w8.1) (rv := some (Value.int w8.2)) (st := []) hC (fun l hl => cX2_put_ok M a0 w1 w6 (w7 - 1) _ hw l hl) vm_X2_put k_L_31 ho ⟨rfl, rfl⟩ rfl ⟨Nat.le_of_ble_eq_true rfl, Nat.le_of_ble_eq_true rfl⟩ (Nat.zero_le _) ⟨Nat.le_of_ble_eq_true rfl, Nat.le_of_ble_eq_true rfl⟩ dL_act_101 rfl ?_
      exact J_iret hC dL_act_104 (by have h9 := Option.some.inj h; subst h9; rfl) (Nat.le_of_ble_eq_true rfl) (Nat.le_of_ble_eq_true rfl)
    · refine ite_c h (fun c2 h => ?_) (fun c2 h => ?_)
      · refine J_tabIn (tgt := 84) (off := 72) (k := 2) hC dL_act_12 c2 (by decide) (by decide) (by decide +kernel) (by decide) ?_
        refine J_aload_n (j := 1) hC dL_act_84 rfl ?_
        refine J_iload_n (j := 0) hC dL_act_85 rfl ?_
        refine J_iload_n (j := 3) hC dL_act_86 rfl ?_
        refine J_bipush (v := 9) hC dL_act_87 (by decide) ?_
        refine bnd_c h (fun w9 hw h => ?_)
        refine J_callS (As := [.int a2, .int 9]) (M' := M) (rv := some (Value.int w9)) (st := [.int w1, rf a0]) hC (fun l hl => cL_low_ok M a2 9 _ hw l hl) sm_L_low k_L_26 rfl ⟨Nat.le_of_ble_eq_true rfl, Nat.le_of_ble_eq_true rfl⟩ (Nat.le_of_ble_eq_true rfl) ⟨Nat.le_of_ble_eq_true rfl, Nat.le_of_ble_eq_true rfl⟩ dL_act_89 rfl ?_
        refine J_iload_n (j := 3) hC dL_act_92 rfl ?_
        refine J_iconst (v := 4) hC dL_act_93 (by decide) ?_
        refine J_ishr hC dL_act_94 ?_
        refine J_iconst (v := 3) hC dL_act_95 (by decide) ?_
        refine bnd_c h (fun w10 hw h => ?_)
        refine J_callS (As := [.int (a2 >>> ((4 : Int32) &&& 31)), .int 3]) (M' := M) (rv := some (Value.int w10)) (st := [.int w9, .int w1, rf a0]) hC (fun l hl => cL_low_ok M (a2 >>> ((4 : Int32) &&& 31)) 3 _ hw l hl) sm_L_low k_L_26 rfl ⟨Nat.le_of_ble_eq_true rfl, Nat.le_of_ble_eq_true rfl⟩ (Nat.le_of_ble_eq_true rfl) ⟨Nat.le_of_ble_eq_true rfl, Nat.le_of_ble_eq_true rfl⟩ dL_act_96 rfl ?_
        refine J_iconst (v := 1) hC dL_act_99 (by decide) ?_
        refine J_isub hC dL_act_100 ?_
        refine ck_c h (fun ho h => ?_)
        refine bnd_c h (fun w11 hw h => ?_)
        refine J_callV (As := [.int w1, .int w9, .int (w10 - 1)]) (M' := w11.1) (rv := some (Value.int w11.2)) (st := []) hC (fun l hl => cX2_put_ok M a0 w1 w9 (w10 - 1) _ hw l hl) vm_X2_put k_L_31 ho ⟨rfl, rfl⟩ rfl ⟨Nat.le_of_ble_eq_true rfl, Nat.le_of_ble_eq_true rfl⟩ (Nat.zero_le _) ⟨Nat.le_of_ble_eq_true rfl, Nat.le_of_ble_eq_true rfl⟩ dL_act_101 rfl ?_
        exact J_iret hC dL_act_104 (by have h9 := Option.some.inj h; subst h9; rfl) (Nat.le_of_ble_eq_true rfl) (Nat.le_of_ble_eq_true rfl)
      · refine ite_c h (fun c3 h => ?_) (fun c3 h => ?_)
        · refine J_tabIn (tgt := 84) (off := 72) (k := 3) hC dL_act_12 c3 (by decide) (by decide) (by decide +kernel) (by decide) ?_
          refine J_aload_n (j := 1) hC dL_act_84 rfl ?_
          refine J_iload_n (j := 0) hC dL_act_85 rfl ?_
          refine J_iload_n (j := 3) hC dL_act_86 rfl ?_
          refine J_bipush (v := 9) hC dL_act_87 (by decide) ?_
          refine bnd_c h (fun w12 hw h => ?_)
          refine J_callS (As := [.int a2, .int 9]) (M' := M) (rv := some (Value.int w12)) (st := [.int w1, rf a0]) hC (fun l hl => cL_low_ok M a2 9 _ hw l hl) sm_L_low k_L_26 rfl ⟨Nat.le_of_ble_eq_true rfl, Nat.le_of_ble_eq_true rfl⟩ (Nat.le_of_ble_eq_true rfl) ⟨Nat.le_of_ble_eq_true rfl, Nat.le_of_ble_eq_true rfl⟩ dL_act_89 rfl ?_
          refine J_iload_n (j := 3) hC dL_act_92 rfl ?_
          refine J_iconst (v := 4) hC dL_act_93 (by decide) ?_
          refine J_ishr hC dL_act_94 ?_
          refine J_iconst (v := 3) hC dL_act_95 (by decide) ?_
          refine bnd_c h (fun w13 hw h => ?_)
          refine J_callS (As := [.int (a2 >>> ((4 : Int32) &&& 31)), .int 3]) (M' := M) (rv := some (Value.int w13)) (st := [.int w12, .int w1, rf a0]) hC (fun l hl => cL_low_ok M (a2 >>> ((4 : Int32) &&& 31)) 3 _ hw l hl) sm_L_low k_L_26 rfl ⟨Nat.le_of_ble_eq_true rfl, Nat.le_of_ble_eq_true rfl⟩ (Nat.le_of_ble_eq_true rfl) ⟨Nat.le_of_ble_eq_true rfl, Nat.le_of_ble_eq_true rfl⟩ dL_act_96 rfl ?_
          refine J_iconst (v := 1) hC dL_act_99 (by decide) ?_
          refine J_isub hC dL_act_100 ?_
          refine ck_c h (fun ho h => ?_)
          refine bnd_c h (fun w14 hw h => ?_)
          refine J_callV (As := [.int w1, .int w12, .int (w13 - 1)]) (M' := w14.1) (rv := some (Value.int w14.2)) (st := []) hC (fun l hl => cX2_put_ok M a0 w1 w12 (w13 - 1) _ hw l hl) vm_X2_put k_L_31 ho ⟨rfl, rfl⟩ rfl ⟨Nat.le_of_ble_eq_true rfl, Nat.le_of_ble_eq_true rfl⟩ (Nat.zero_le _) ⟨Nat.le_of_ble_eq_true rfl, Nat.le_of_ble_eq_true rfl⟩ dL_act_101 rfl ?_
          exact J_iret hC dL_act_104 (by have h9 := Option.some.inj h; subst h9; rfl) (Nat.le_of_ble_eq_true rfl) (Nat.le_of_ble_eq_true rfl)
        · refine ite_c h (fun c4 h => ?_) (fun c4 h => ?_)
          · refine J_tabIn (tgt := 84) (off := 72) (k := 4) hC dL_act_12 c4 (by decide) (by decide) (by decide +kernel) (by decide) ?_
            refine J_aload_n (j := 1) hC dL_act_84 rfl ?_
            refine J_iload_n (j := 0) hC dL_act_85 rfl ?_
            refine J_iload_n (j := 3) hC dL_act_86 rfl ?_
            refine J_bipush (v := 9) hC dL_act_87 (by decide) ?_
            refine bnd_c h (fun w15 hw h => ?_)
            refine J_callS (As := [.int a2, .int 9]) (M' := M) (rv := some (Value.int w15)) (st := [.int w1, rf a0]) hC (fun l hl => cL_low_ok M a2 9 _ hw l hl) sm_L_low k_L_26 rfl ⟨Nat.le_of_ble_eq_true rfl, Nat.le_of_ble_eq_true rfl⟩ (Nat.le_of_ble_eq_true rfl) ⟨Nat.le_of_ble_eq_true rfl, Nat.le_of_ble_eq_true rfl⟩ dL_act_89 rfl ?_
            refine J_iload_n (j := 3) hC dL_act_92 rfl ?_
            refine J_iconst (v := 4) hC dL_act_93 (by decide) ?_
            refine J_ishr hC dL_act_94 ?_
            refine J_iconst (v := 3) hC dL_act_95 (by decide) ?_
            refine bnd_c h (fun w16 hw h => ?_)
            refine J_callS (As := [.int (a2 >>> ((4 : Int32) &&& 31)), .int 3]) (M' := M) (rv := some (Value.int w16)) (st := [.int w15, .int w1, rf a0]) hC (fun l hl => cL_low_ok M (a2 >>> ((4 : Int32) &&& 31)) 3 _ hw l hl) sm_L_low k_L_26 rfl ⟨Nat.le_of_ble_eq_true rfl, Nat.le_of_ble_eq_true rfl⟩ (Nat.le_of_ble_eq_true rfl) ⟨Nat.le_of_ble_eq_true rfl, Nat.le_of_ble_eq_true rfl⟩ dL_act_96 rfl ?_
            refine J_iconst (v := 1) hC dL_act_99 (by decide) ?_
            refine J_isub hC dL_act_100 ?_
            refine ck_c h (fun ho h => ?_)
            refine bnd_c h (fun w17 hw h => ?_)
            refine J_callV (As := [.int w1, .int w15, .int (w16 - 1)]) (M' := w17.1) (rv := some (Value.int w17.2)) (st := []) hC (fun l hl => cX2_put_ok M a0 w1 w15 (w16 - 1) _ hw l hl) vm_X2_put k_L_31 ho ⟨rfl, rfl⟩ rfl ⟨Nat.le_of_ble_eq_true rfl, Nat.le_of_ble_eq_true rfl⟩ (Nat.zero_le _) ⟨Nat.le_of_ble_eq_true rfl, Nat.le_of_ble_eq_true rfl⟩ dL_act_101 rfl ?_
            exact J_iret hC dL_act_104 (by have h9 := Option.some.inj h; subst h9; rfl) (Nat.le_of_ble_eq_true rfl) (Nat.le_of_ble_eq_true rfl)
          · refine ite_c h (fun c5 h => ?_) (fun c5 h => ?_)
            · refine J_tabIn (tgt := 84) (off := 72) (k := 5) hC dL_act_12 c5 (by decide) (by decide) (by decide +kernel) (by decide) ?_
              refine J_aload_n (j := 1) hC dL_act_84 rfl ?_
              refine J_iload_n (j := 0) hC dL_act_85 rfl ?_
              refine J_iload_n (j := 3) hC dL_act_86 rfl ?_
              refine J_bipush (v := 9) hC dL_act_87 (by decide) ?_
              refine bnd_c h (fun w18 hw h => ?_)
              refine J_callS (As := [.int a2, .int 9]) (M' := M) (rv := some (Value.int w18)) (st := [.int w1, rf a0]) hC (fun l hl => cL_low_ok M a2 9 _ hw l hl) sm_L_low k_L_26 rfl ⟨Nat.le_of_ble_eq_true rfl, Nat.le_of_ble_eq_true rfl⟩ (Nat.le_of_ble_eq_true rfl) ⟨Nat.le_of_ble_eq_true rfl, Nat.le_of_ble_eq_true rfl⟩ dL_act_89 rfl ?_
              refine J_iload_n (j := 3) hC dL_act_92 rfl ?_
              refine J_iconst (v := 4) hC dL_act_93 (by decide) ?_
              refine J_ishr hC dL_act_94 ?_
              refine J_iconst (v := 3) hC dL_act_95 (by decide) ?_
              refine bnd_c h (fun w19 hw h => ?_)
              refine J_callS (As := [.int (a2 >>> ((4 : Int32) &&& 31)), .int 3]) (M' := M) (rv := some (Value.int w19)) (st := [.int w18, .int w1, rf a0]) hC (fun l hl => cL_low_ok M (a2 >>> ((4 : Int32) &&& 31)) 3 _ hw l hl) sm_L_low k_L_26 rfl ⟨Nat.le_of_ble_eq_true rfl, Nat.le_of_ble_eq_true rfl⟩ (Nat.le_of_ble_eq_true rfl) ⟨Nat.le_of_ble_eq_true rfl, Nat.le_of_ble_eq_true rfl⟩ dL_act_96 rfl ?_
              refine J_iconst (v := 1) hC dL_act_99 (by decide) ?_
              refine J_isub hC dL_act_100 ?_
              refine ck_c h (fun ho h => ?_)
              refine bnd_c h (fun w20 hw h => ?_)
              refine J_callV (As := [.int w1, .int w18, .int (w19 - 1)]) (M' := w20.1) (rv := some (Value.int w20.2)) (st := []) hC (fun l hl => cX2_put_ok M a0 w1 w18 (w19 - 1) _ hw l hl) vm_X2_put k_L_31 ho ⟨rfl, rfl⟩ rfl ⟨Nat.le_of_ble_eq_true rfl, Nat.le_of_ble_eq_true rfl⟩ (Nat.zero_le _) ⟨Nat.le_of_ble_eq_true rfl, Nat.le_of_ble_eq_true rfl⟩ dL_act_101 rfl ?_
              exact J_iret hC dL_act_104 (by have h9 := Option.some.inj h; subst h9; rfl) (Nat.le_of_ble_eq_true rfl) (Nat.le_of_ble_eq_true rfl)
            · refine ite_c h (fun c6 h => ?_) (fun c6 h => ?_)
              · refine J_tabIn (tgt := 105) (off := 93) (k := 6) hC dL_act_12 c6 (by decide) (by decide) (by decide +kernel) (by decide) ?_
                refine J_aload_n (j := 1) hC dL_act_105 rfl ?_
                refine J_iload_n (j := 0) hC dL_act_106 rfl ?_
                refine J_iload_n (j := 3) hC dL_act_107 rfl ?_
                refine J_iconst (v := 5) hC dL_act_108 (by decide) ?_
                refine bnd_c h (fun w21 hw h => ?_)
                refine J_callS (As := [.int a2, .int 5]) (M' := M) (rv := some (Value.int w21)) (st := [.int w1, rf a0]) hC (fun l hl => cL_low_ok M a2 5 _ hw l hl) sm_L_low k_L_26 rfl ⟨Nat.le_of_ble_eq_true rfl, Nat.le_of_ble_eq_true rfl⟩ (Nat.le_of_ble_eq_true rfl) ⟨Nat.le_of_ble_eq_true rfl, Nat.le_of_ble_eq_true rfl⟩ dL_act_109 rfl ?_
                refine ck_c h (fun ho h => ?_)
                refine bnd_c h (fun w22 hw h => ?_)
                refine J_callV (As := [.int w1, .int w21]) (M' := w22.1) (rv := some (Value.int w22.2)) (st := []) hC (fun l hl => cX2_copy_ok M a0 w1 w21 _ hw l hl) vm_X2_copy k_L_35 ho ⟨rfl, rfl⟩ rfl ⟨Nat.le_of_ble_eq_true rfl, Nat.le_of_ble_eq_true rfl⟩ (Nat.zero_le _) ⟨Nat.le_of_ble_eq_true rfl, Nat.le_of_ble_eq_true rfl⟩ dL_act_112 rfl ?_
                exact J_iret hC dL_act_115 (by have h9 := Option.some.inj h; subst h9; rfl) (Nat.le_of_ble_eq_true rfl) (Nat.le_of_ble_eq_true rfl)
              · refine ite_c h (fun c7 h => ?_) (fun c7 h => ?_)
                · refine J_tabIn (tgt := 116) (off := 104) (k := 7) hC dL_act_12 c7 (by decide) (by decide) (by decide +kernel) (by decide) ?_
                  refine J_aload_n (j := 1) hC dL_act_116 rfl ?_
                  refine J_iload_n (j := 0) hC dL_act_117 rfl ?_
                  refine J_iload_n (j := 3) hC dL_act_118 rfl ?_
                  refine J_iconst (v := 3) hC dL_act_119 (by decide) ?_
                  refine bnd_c h (fun w23 hw h => ?_)
                  refine J_callS (As := [.int a2, .int 3]) (M' := M) (rv := some (Value.int w23)) (st := [.int w1, rf a0]) hC (fun l hl => cL_low_ok M a2 3 _ hw l hl) sm_L_low k_L_26 rfl ⟨Nat.le_of_ble_eq_true rfl, Nat.le_of_ble_eq_true rfl⟩ (Nat.le_of_ble_eq_true rfl) ⟨Nat.le_of_ble_eq_true rfl, Nat.le_of_ble_eq_true rfl⟩ dL_act_120 rfl ?_
                  refine J_iconst (v := 1) hC dL_act_123 (by decide) ?_
                  refine J_isub hC dL_act_124 ?_
                  refine ck_c h (fun ho h => ?_)
                  refine bnd_c h (fun w24 hw h => ?_)
                  refine J_callV (As := [.int w1, .int (w23 - 1)]) (M' := w24.1) (rv := some (Value.int w24.2)) (st := []) hC (fun l hl => cX2_divide_ok M a0 w1 (w23 - 1) _ hw l hl) vm_X2_divide k_L_38 ho ⟨rfl, rfl⟩ rfl ⟨Nat.le_of_ble_eq_true rfl, Nat.le_of_ble_eq_true rfl⟩ (Nat.zero_le _) ⟨Nat.le_of_ble_eq_true rfl, Nat.le_of_ble_eq_true rfl⟩ dL_act_125 rfl ?_
                  exact J_iret hC dL_act_128 (by have h9 := Option.some.inj h; subst h9; rfl) (Nat.le_of_ble_eq_true rfl) (Nat.le_of_ble_eq_true rfl)
                · refine ite_c h (fun c8 h => ?_) (fun c8 h => ?_)
                  · refine J_tabIn (tgt := 116) (off := 104) (k := 8) hC dL_act_12 c8 (by decide) (by decide) (by decide +kernel) (by decide) ?_
                    refine J_aload_n (j := 1) hC dL_act_116 rfl ?_
                    refine J_iload_n (j := 0) hC dL_act_117 rfl ?_
                    refine J_iload_n (j := 3) hC dL_act_118 rfl ?_
                    refine J_iconst (v := 3) hC dL_act_119 (by decide) ?_
                    refine bnd_c h (fun w25 hw h => ?_)
                    refine J_callS (As := [.int a2, .int 3]) (M' := M) (rv := some (Value.int w25)) (st := [.int w1, rf a0]) hC (fun l hl => cL_low_ok M a2 3 _ hw l hl) sm_L_low k_L_26 rfl ⟨Nat.le_of_ble_eq_true rfl, Nat.le_of_ble_eq_true rfl⟩ (Nat.le_of_ble_eq_true rfl) ⟨Nat.le_of_ble_eq_true rfl, Nat.le_of_ble_eq_true rfl⟩ dL_act_120 rfl ?_
                    refine J_iconst (v := 1) hC dL_act_123 (by decide) ?_
                    refine J_isub hC dL_act_124 ?_
                    refine ck_c h (fun ho h => ?_)
                    refine bnd_c h (fun w26 hw h => ?_)
                    refine J_callV (As := [.int w1, .int (w25 - 1)]) (M' := w26.1) (rv := some (Value.int w26.2)) (st := []) hC (fun l hl => cX2_divide_ok M a0 w1 (w25 - 1) _ hw l hl) vm_X2_divide k_L_38 ho ⟨rfl, rfl⟩ rfl ⟨Nat.le_of_ble_eq_true rfl, Nat.le_of_ble_eq_true rfl⟩ (Nat.zero_le _) ⟨Nat.le_of_ble_eq_true rfl, Nat.le_of_ble_eq_true rfl⟩ dL_act_125 rfl ?_
                    exact J_iret hC dL_act_128 (by have h9 := Option.some.inj h; subst h9; rfl) (Nat.le_of_ble_eq_true rfl) (Nat.le_of_ble_eq_true rfl)
                  · refine ite_c h (fun c9 h => ?_) (fun c9 h => ?_)
                    · refine J_tabIn (tgt := 116) (off := 104) (k := 9) hC dL_act_12 c9 (by decide) (by decide) (by decide +kernel) (by decide) ?_
                      refine J_aload_n (j := 1) hC dL_act_116 rfl ?_
                      refine J_iload_n (j := 0) hC dL_act_117 rfl ?_
                      refine J_iload_n (j := 3) hC dL_act_118 rfl ?_
                      refine J_iconst (v := 3) hC dL_act_119 (by decide) ?_
                      refine bnd_c h (fun w27 hw h => ?_)
                      refine J_callS (As := [.int a2, .int 3]) (M' := M) (rv := some (Value.int w27)) (st := [.int w1, rf a0]) hC (fun l hl => cL_low_ok M a2 3 _ hw l hl) sm_L_low k_L_26 rfl ⟨Nat.le_of_ble_eq_true rfl, Nat.le_of_ble_eq_true rfl⟩ (Nat.le_of_ble_eq_true rfl) ⟨Nat.le_of_ble_eq_true rfl, Nat.le_of_ble_eq_true rfl⟩ dL_act_120 rfl ?_
                      refine J_iconst (v := 1) hC dL_act_123 (by decide) ?_
                      refine J_isub hC dL_act_124 ?_
                      refine ck_c h (fun ho h => ?_)
                      refine bnd_c h (fun w28 hw h => ?_)
                      refine J_callV (As := [.int w1, .int (w27 - 1)]) (M' := w28.1) (rv := some (Value.int w28.2)) (st := []) hC (fun l hl => cX2_divide_ok M a0 w1 (w27 - 1) _ hw l hl) vm_X2_divide k_L_38 ho ⟨rfl, rfl⟩ rfl ⟨Nat.le_of_ble_eq_true rfl, Nat.le_of_ble_eq_true rfl⟩ (Nat.zero_le _) ⟨Nat.le_of_ble_eq_true rfl, Nat.le_of_ble_eq_true rfl⟩ dL_act_125 rfl ?_
                      exact J_iret hC dL_act_128 (by have h9 := Option.some.inj h; subst h9; rfl) (Nat.le_of_ble_eq_true rfl) (Nat.le_of_ble_eq_true rfl)
                    · refine ite_c h (fun c10 h => ?_) (fun c10 h => ?_)
                      · refine J_tabIn (tgt := 129) (off := 117) (k := 10) hC dL_act_12 c10 (by decide) (by decide) (by decide +kernel) (by decide) ?_
                        refine J_aload_n (j := 1) hC dL_act_129 rfl ?_
                        refine J_iload_n (j := 3) hC dL_act_130 rfl ?_
                        refine J_bipush (v := 19) hC dL_act_131 (by decide) ?_
                        refine bnd_c h (fun w29 hw h => ?_)
                        refine J_callS (As := [.int a2, .int 19]) (M' := M) (rv := some (Value.int w29)) (st := [rf a0]) hC (fun l hl => cL_low_ok M a2 19 _ hw l hl) sm_L_low k_L_26 rfl ⟨Nat.le_of_ble_eq_true rfl, Nat.le_of_ble_eq_true rfl⟩ (Nat.le_of_ble_eq_true rfl) ⟨Nat.le_of_ble_eq_true rfl, Nat.le_of_ble_eq_true rfl⟩ dL_act_133 rfl ?_
                        refine J_bipush (v := 9) hC dL_act_136 (by decide) ?_
                        refine J_isub hC dL_act_138 ?_
                        refine ck_c h (fun ho h => ?_)
                        refine bnd_c h (fun w30 hw h => ?_)
                        refine J_callV (As := [.int (w29 - 9)]) (M' := w30.1) (rv := some (Value.int w30.2)) (st := []) hC (fun l hl => cX2_root_ok M a0 (w29 - 9) _ hw l hl) vm_X2_root k_L_41 ho ⟨rfl, rfl⟩ rfl ⟨Nat.le_of_ble_eq_true rfl, Nat.le_of_ble_eq_true rfl⟩ (Nat.zero_le _) ⟨Nat.le_of_ble_eq_true rfl, Nat.le_of_ble_eq_true rfl⟩ dL_act_139 rfl ?_
                        exact J_iret hC dL_act_142 (by have h9 := Option.some.inj h; subst h9; rfl) (Nat.le_of_ble_eq_true rfl) (Nat.le_of_ble_eq_true rfl)
                      · refine ite_c h (fun c11 h => ?_) (fun c11 h => ?_)
                        · refine J_tabIn (tgt := 129) (off := 117) (k := 11) hC dL_act_12 c11 (by decide) (by decide) (by decide +kernel) (by decide) ?_
                          refine J_aload_n (j := 1) hC dL_act_129 rfl ?_
                          refine J_iload_n (j := 3) hC dL_act_130 rfl ?_
                          refine J_bipush (v := 19) hC dL_act_131 (by decide) ?_
                          refine bnd_c h (fun w31 hw h => ?_)
                          refine J_callS (As := [.int a2, .int 19]) (M' := M) (rv := some (Value.int w31)) (st := [rf a0]) hC (fun l hl => cL_low_ok M a2 19 _ hw l hl) sm_L_low k_L_26 rfl ⟨Nat.le_of_ble_eq_true rfl, Nat.le_of_ble_eq_true rfl⟩ (Nat.le_of_ble_eq_true rfl) ⟨Nat.le_of_ble_eq_true rfl, Nat.le_of_ble_eq_true rfl⟩ dL_act_133 rfl ?_
                          refine J_bipush (v := 9) hC dL_act_136 (by decide) ?_
                          refine J_isub hC dL_act_138 ?_
                          refine ck_c h (fun ho h => ?_)
                          refine bnd_c h (fun w32 hw h => ?_)
                          refine J_callV (As := [.int (w31 - 9)]) (M' := w32.1) (rv := some (Value.int w32.2)) (st := []) hC (fun l hl => cX2_root_ok M a0 (w31 - 9) _ hw l hl) vm_X2_root k_L_41 ho ⟨rfl, rfl⟩ rfl ⟨Nat.le_of_ble_eq_true rfl, Nat.le_of_ble_eq_true rfl⟩ (Nat.zero_le _) ⟨Nat.le_of_ble_eq_true rfl, Nat.le_of_ble_eq_true rfl⟩ dL_act_139 rfl ?_
                          exact J_iret hC dL_act_142 (by have h9 := Option.some.inj h; subst h9; rfl) (Nat.le_of_ble_eq_true rfl) (Nat.le_of_ble_eq_true rfl)
                        · refine ite_c h (fun c12 h => ?_) (fun c12 h => ?_)
                          · refine J_tabIn (tgt := 129) (off := 117) (k := 12) hC dL_act_12 c12 (by decide) (by decide) (by decide +kernel) (by decide) ?_
                            refine J_aload_n (j := 1) hC dL_act_129 rfl ?_
                            refine J_iload_n (j := 3) hC dL_act_130 rfl ?_
                            refine J_bipush (v := 19) hC dL_act_131 (by decide) ?_
                            refine bnd_c h (fun w33 hw h => ?_)
                            refine J_callS (As := [.int a2, .int 19]) (M' := M) (rv := some (Value.int w33)) (st := [rf a0]) hC (fun l hl => cL_low_ok M a2 19 _ hw l hl) sm_L_low k_L_26 rfl ⟨Nat.le_of_ble_eq_true rfl, Nat.le_of_ble_eq_true rfl⟩ (Nat.le_of_ble_eq_true rfl) ⟨Nat.le_of_ble_eq_true rfl, Nat.le_of_ble_eq_true rfl⟩ dL_act_133 rfl ?_
                            refine J_bipush (v := 9) hC dL_act_136 (by decide) ?_
                            refine J_isub hC dL_act_138 ?_
                            refine ck_c h (fun ho h => ?_)
                            refine bnd_c h (fun w34 hw h => ?_)
                            refine J_callV (As := [.int (w33 - 9)]) (M' := w34.1) (rv := some (Value.int w34.2)) (st := []) hC (fun l hl => cX2_root_ok M a0 (w33 - 9) _ hw l hl) vm_X2_root k_L_41 ho ⟨rfl, rfl⟩ rfl ⟨Nat.le_of_ble_eq_true rfl, Nat.le_of_ble_eq_true rfl⟩ (Nat.zero_le _) ⟨Nat.le_of_ble_eq_true rfl, Nat.le_of_ble_eq_true rfl⟩ dL_act_139 rfl ?_
                            exact J_iret hC dL_act_142 (by have h9 := Option.some.inj h; subst h9; rfl) (Nat.le_of_ble_eq_true rfl) (Nat.le_of_ble_eq_true rfl)
                          · refine ite_c h (fun c13 h => ?_) (fun c13 h => ?_)
                            · refine J_tabIn (tgt := 143) (off := 131) (k := 13) hC dL_act_12 c13 (by decide) (by decide) (by decide +kernel) (by decide) ?_
                              refine J_iload_n (j := 3) hC dL_act_143 rfl ?_
                              refine J_iconst (v := 1) hC dL_act_144 (by decide) ?_
                              refine J_iand hC dL_act_145 ?_
                              refine J_if_ne (tgt := 156) hC dL_act_146 (by decide) (fun c35 => ?_) (fun c35 => ?_)
                              · have h := ite_f c35 h
                                refine J_aload_n (j := 1) hC dL_act_156 rfl ?_
                                refine J_iconst (v := 0) hC dL_act_157 (by decide) ?_
                                refine ck_c h (fun ho h => ?_)
                                refine bnd_c h (fun w37 hw h => ?_)
                                refine J_callV (As := [.int 0]) (M' := w37.1) (rv := some (Value.int w37.2)) (st := []) hC (fun l hl => cX2_goBack_ok M a0 0 _ hw l hl) vm_X2_goBack k_L_48 ho ⟨rfl, rfl⟩ rfl ⟨Nat.le_of_ble_eq_true rfl, Nat.le_of_ble_eq_true rfl⟩ (Nat.zero_le _) ⟨Nat.le_of_ble_eq_true rfl, Nat.le_of_ble_eq_true rfl⟩ dL_act_158 rfl ?_
                                exact J_iret hC dL_act_161 (by have h9 := Option.some.inj h; subst h9; rfl) (Nat.le_of_ble_eq_true rfl) (Nat.le_of_ble_eq_true rfl)
                              · have h := ite_t c35 h
                                refine J_aload_n (j := 1) hC dL_act_149 rfl ?_
                                refine ck_c h (fun ho h => ?_)
                                refine bnd_c h (fun w36 hw h => ?_)
                                refine J_callV (As := []) (M' := w36.1) (rv := some (Value.int w36.2)) (st := []) hC (fun l hl => cX2_unroot_ok M a0 _ hw l hl) vm_X2_unroot k_L_44 ho ⟨rfl, rfl⟩ rfl ⟨Nat.le_of_ble_eq_true rfl, Nat.le_of_ble_eq_true rfl⟩ (Nat.zero_le _) ⟨Nat.le_of_ble_eq_true rfl, Nat.le_of_ble_eq_true rfl⟩ dL_act_150 rfl ?_
                                refine J_goto (tgt := 161) hC dL_act_153 (by decide) ?_
                                exact J_iret hC dL_act_161 (by have h9 := Option.some.inj h; subst h9; rfl) (Nat.le_of_ble_eq_true rfl) (Nat.le_of_ble_eq_true rfl)
                            · have hd9 : (a1 &&& 15).toInt < 0 ∨ 13 < (a1 &&& 15).toInt := by
                                have e0 := ne_toInt c0
                                have e1 := ne_toInt c1
                                have e2 := ne_toInt c2
                                have e3 := ne_toInt c3
                                have e4 := ne_toInt c4
                                have e5 := ne_toInt c5
                                have e6 := ne_toInt c6
                                have e7 := ne_toInt c7
                                have e8 := ne_toInt c8
                                have e9 := ne_toInt c9
                                have e10 := ne_toInt c10
                                have e11 := ne_toInt c11
                                have e12 := ne_toInt c12
                                have e13 := ne_toInt c13
                                skip
                                have f0 : (0 : Int32).toInt = 0 := by decide
                                have f1 : (1 : Int32).toInt = 1 := by decide
                                have f2 : (2 : Int32).toInt = 2 := by decide
                                have f3 : (3 : Int32).toInt = 3 := by decide
                                have f4 : (4 : Int32).toInt = 4 := by decide
                                have f5 : (5 : Int32).toInt = 5 := by decide
                                have f6 : (6 : Int32).toInt = 6 := by decide
                                have f7 : (7 : Int32).toInt = 7 := by decide
                                have f8 : (8 : Int32).toInt = 8 := by decide
                                have f9 : (9 : Int32).toInt = 9 := by decide
                                have f10 : (10 : Int32).toInt = 10 := by decide
                                have f11 : (11 : Int32).toInt = 11 := by decide
                                have f12 : (12 : Int32).toInt = 12 := by decide
                                have f13 : (13 : Int32).toInt = 13 := by decide
                                omega
                              refine J_tableOut (tgt := 162) hC dL_act_12 hd9 (by decide) ?_
                              refine J_aload_n (j := 1) hC dL_act_162 rfl ?_
                              refine J_iload_n (j := 0) hC dL_act_163 rfl ?_
                              refine ck_c h (fun ho h => ?_)
                              refine bnd_c h (fun w2 hw h => ?_)
                              refine J_callV (As := [.int w1]) (M' := w2.1) (rv := some (Value.int w2.2)) (st := []) hC (fun l hl => cX2_lower_ok M a0 w1 _ hw l hl) vm_X2_lower k_L_51 ho ⟨rfl, rfl⟩ rfl ⟨Nat.le_of_ble_eq_true rfl, Nat.le_of_ble_eq_true rfl⟩ (Nat.zero_le _) ⟨Nat.le_of_ble_eq_true rfl, Nat.le_of_ble_eq_true rfl⟩ dL_act_164 rfl ?_
                              exact J_iret hC dL_act_167 (by have h9 := Option.some.inj h; subst h9; rfl) (Nat.le_of_ble_eq_true rfl) (Nat.le_of_ble_eq_true rfl)
abbrev rm_L_holds : Room := { frames := 18, cells := 0, slots := 0, locals := 487 }

set_option maxHeartbeats 4000000 in
set_option maxRecDepth 100000 in
theorem tL_holds_5 {C : JC} {r0 : Mem × Int32} (x0 : Option Nat) (x1 : Int32) (x2 : Int32) (hC : Ok C false cL_holds 9 rm_L_holds (some .boolean) RL (r0.1, Sum.inr (some (Value.int r0.2))))  (k121 : Mem → Int32 → Int32 → Option (Mem × Int32)) (k129 : Mem → Int32 → Int32 → Option (Mem × Int32)) (hk121 : ∀ (M : Mem) (x3 : Int32) (x4 : Int32), k121 M x3 x4 = some r0 → J C 0 0 M 121 [(0, rf x0), (1, .int x1), (2, .int x2), (3, .int x3), (4, .int x4)] []) (hk129 : ∀ (M : Mem) (x3 : Int32) (x4 : Int32), k129 M x3 x4 = some r0 → J C 0 0 M 129 [(0, rf x0), (1, .int x1), (2, .int x2), (3, .int x3), (4, .int x4)] []) : ∀ (n : Nat) (M : Mem) (x3 : Int32) (x4 : Int32), fL_holds_5 x0 x1 x2 k121 k129 n M x3 x4 = some r0 → J C 0 0 M 5 [(0, rf x0), (1, .int x1), (2, .int x2), (3, .int x3), (4, .int x4)] [] := by
  intro n
  induction n with
  | zero => intro M x3 x4 h; have h : none = some r0 := h; cases h
  | succ n ih =>
    intro M x3 x4 h
    rw [fL_holds_5] at h
    refine J_iload (j := 4) hC dL_holds_5 rfl ?_
    refine J_iconst (v := 2) hC dL_holds_7 (by decide) ?_
    refine J_icmp_ge (tgt := 129) hC dL_holds_8 (by decide) (fun c1 => ?_) (fun c1 => ?_)
    · have h := ite_t c1 h
      refine J_sub [0, 1, 2, 3, 4] rfl ?_
      exact hk129 M x3 x4 h
    · have h := ite_f c1 h
      refine J_aload_n (j := 0) hC dL_holds_11 rfl ?_
      refine J_iload_n (j := 1) hC dL_holds_12 rfl ?_
      refine J_iload (j := 4) hC dL_holds_13 rfl ?_
      refine J_iconst (v := 0) hC dL_holds_15 (by decide) ?_
      refine ck_c h (fun ho h => ?_)
      refine bnd_c h (fun w2 hw h => ?_)
      refine J_callV (As := [.int x1, .int x4, .int 0]) (M' := w2.1) (rv := some (Value.int w2.2)) (st := []) hC (fun l hl => cX2_times_ok M x0 x1 x4 0 _ hw l hl) vm_X2_times k_L_54 ho ⟨rfl, rfl⟩ rfl ⟨Nat.le_of_ble_eq_true rfl, Nat.le_of_ble_eq_true rfl⟩ (Nat.zero_le _) ⟨Nat.le_of_ble_eq_true rfl, Nat.le_of_ble_eq_true rfl⟩ dL_holds_16 rfl ?_
      refine J_istore (lv' := [(5, .int w2.2), (0, rf x0), (1, .int x1), (2, .int x2), (3, .int x3), (4, .int x4)]) hC dL_holds_19 (by decide) rfl ?_
      refine J_aload_n (j := 1) hC dL_holds_21 rfl ?_
      refine J_iload_n (j := 2) hC dL_holds_22 rfl ?_
      refine J_iload (j := 5) hC dL_holds_23 rfl ?_
      refine ck_c h (fun ho h => ?_)
      refine bnd_c h (fun w3 hw h => ?_)
      refine J_callV (As := [.int x1, .int x4]) (M' := w2.1) (rv := some (Value.int w3)) (st := []) hC (fun l hl => cX2_isRoot_ok w2.1 x0 x1 x4 _ hw l hl) vm_X2_isRoot k_L_57 ho ⟨rfl, rfl⟩ rfl ⟨Nat.le_of_ble_eq_true rfl, Nat.le_of_ble_eq_true rfl⟩ (Nat.zero_le _) ⟨Nat.le_of_ble_eq_true rfl, Nat.le_of_ble_eq_true rfl⟩ dL_holds_25 rfl ?_
      refine J_iconst (v := 1) hC dL_holds_28 (by decide) ?_
      have hj : ∀ (z19 : Int32), z19 = (if w3 = 1 then 1 else 0) → J C 0 0 w2.1 37 [(5, .int w2.2), (0, rf x0), (1, .int x1), (2, .int x2), (3, .int x3), (4, .int x4)] [.int z19] := by
        intro z19 ez19
        subst ez19
        refine J_istore (lv' := [(6, .int (if w3 = 1 then 1 else 0)), (5, .int w2.2), (0, rf x0), (1, .int x1), (2, .int x2), (3, .int x3), (4, .int x4)]) hC dL_holds_37 (by decide) rfl ?_
        refine J_iload_n (j := 5) hC dL_holds_39 rfl ?_
        refine J_iload (j := 6) hC dL_holds_40 rfl ?_
        have hj : ∀ (z17 : Int32), z17 = (if 0 ≤ x4 then w2.2 else 0) → J C 0 0 w2.1 51 [(6, .int (if w3 = 1 then 1 else 0)), (5, .int w2.2), (0, rf x0), (1, .int x1), (2, .int x2), (3, .int x3), (4, .int x4)] [.int z17, .int x3] := by
          intro z17 ez17
          subst ez17
          refine J_iadd hC dL_holds_51 ?_
          refine J_istore_n (i := 3) (lv' := [(3, .int (x3 + (if 0 ≤ x4 then w2.2 else 0))), (6, .int (if w3 = 1 then 1 else 0)), (5, .int w2.2), (0, rf x0), (1, .int x1), (2, .int x2), (4, .int x4)]) rfl hC dL_holds_52 (by decide) rfl ?_
          refine J_iload (j := 2) hC dL_holds_53 rfl ?_
          refine J_aload_n (j := 3) hC dL_holds_55 rfl ?_
          refine J_iload_n (j := 4) hC dL_holds_56 rfl ?_
          refine J_iload (j := 6) hC dL_holds_57 rfl ?_
          refine J_iconst (v := 1) hC dL_holds_59 (by decide) ?_
          refine ck_c h (fun ho h => ?_)
          refine bnd_c h (fun w4 hw h => ?_)
          refine J_callV (As := [.int x1, .int x4, .int 1]) (M' := w4.1) (rv := some (Value.int w4.2)) (st := [.int w2.2]) hC (fun l hl => cX2_times_ok w2.1 x0 x1 x4 1 _ hw l hl) vm_X2_times k_L_54 ho ⟨rfl, rfl⟩ rfl ⟨Nat.le_of_ble_eq_true rfl, Nat.le_of_ble_eq_true rfl⟩ (Nat.le_of_ble_eq_true rfl) ⟨Nat.le_of_ble_eq_true rfl, Nat.le_of_ble_eq_true rfl⟩ dL_holds_60 rfl ?_
          refine J_icmp_ne (tgt := 121) hC dL_holds_63 (by decide) (fun c5 => ?_) (fun c5 => ?_)
          · have h := ite_f c5 h
            refine J_sub [3, 4, 5, 0, 6] rfl ?_
            exact hk121 w4.1 (x3 + (if 0 ≤ x4 then w2.2 else 0)) x4 h
          · have h := ite_t c5 h
            refine J_iload (j := 1) hC dL_holds_66 rfl ?_
            refine J_iload (j := 2) hC dL_holds_68 rfl ?_
            have hj : ∀ (z15 : Int32), z15 = (if w2.2 ≤ 0 then 0 else 1) → J C 0 0 w4.1 78 [(3, .int (x3 + (if 0 ≤ x4 then w2.2 else 0))), (6, .int (if w3 = 1 then 1 else 0)), (5, .int w2.2), (0, rf x0), (1, .int x1), (2, .int x2), (4, .int x4)] [.int z15, .int (if w3 = 1 then 1 else 0)] := by
              intro z15 ez15
              subst ez15
              refine J_icmp_ne (tgt := 121) hC dL_holds_78 (by decide) (fun c6 => ?_) (fun c6 => ?_)
              · have h := ite_f c6 h
                refine J_sub [3, 4, 5, 0, 6] rfl ?_
                exact hk121 w4.1 (x3 + (if 0 ≤ x4 then w2.2 else 0)) x4 h
              · have h := ite_t c6 h
                refine J_iload (j := 1) hC dL_holds_81 rfl ?_
                refine J_aload_n (j := 3) hC dL_holds_83 rfl ?_
                refine J_iload_n (j := 4) hC dL_holds_84 rfl ?_
                refine J_iload (j := 6) hC dL_holds_85 rfl ?_
                refine ck_c h (fun ho h => ?_)
                refine bnd_c h (fun w7 hw h => ?_)
                refine J_callV (As := [.int x1, .int x4]) (M' := w7.1) (rv := some (Value.int w7.2)) (st := [.int (if w3 = 1 then 1 else 0)]) hC (fun l hl => cX2_quotients_ok w4.1 x0 x1 x4 _ hw l hl) vm_X2_quotients k_L_60 ho ⟨rfl, rfl⟩ rfl ⟨Nat.le_of_ble_eq_true rfl, Nat.le_of_ble_eq_true rfl⟩ (Nat.le_of_ble_eq_true rfl) ⟨Nat.le_of_ble_eq_true rfl, Nat.le_of_ble_eq_true rfl⟩ dL_holds_87 rfl ?_
                have hj : ∀ (z13 : Int32), z13 = (if w7.2 ≤ 0 then 0 else 1) → J C 0 0 w7.1 98 [(3, .int (x3 + (if 0 ≤ x4 then w2.2 else 0))), (6, .int (if w3 = 1 then 1 else 0)), (5, .int w2.2), (0, rf x0), (1, .int x1), (2, .int x2), (4, .int x4)] [.int z13, .int (if w3 = 1 then 1 else 0)] := by
                  intro z13 ez13
                  subst ez13
                  refine J_icmp_ne (tgt := 121) hC dL_holds_98 (by decide) (fun c8 => ?_) (fun c8 => ?_)
                  · have h := ite_f c8 h
                    refine J_sub [3, 4, 5, 0, 6] rfl ?_
                    exact hk121 w7.1 (x3 + (if 0 ≤ x4 then w2.2 else 0)) x4 h
                  · have h := ite_t c8 h
                    refine J_iload (j := 1) hC dL_holds_101 rfl ?_
                    refine J_aload_n (j := 3) hC dL_holds_103 rfl ?_
                    refine J_iload_n (j := 4) hC dL_holds_104 rfl ?_
                    refine J_iload (j := 6) hC dL_holds_105 rfl ?_
                    refine ck_c h (fun ho h => ?_)
                    refine bnd_c h (fun w9 hw h => ?_)
                    refine J_callV (As := [.int x1, .int x4]) (M' := w9.1) (rv := some (Value.int w9.2)) (st := [.int (if w3 = 1 then 1 else 0)]) hC (fun l hl => cX2_best_ok w7.1 x0 x1 x4 _ hw l hl) vm_X2_best k_L_63 ho ⟨rfl, rfl⟩ rfl ⟨Nat.le_of_ble_eq_true rfl, Nat.le_of_ble_eq_true rfl⟩ (Nat.le_of_ble_eq_true rfl) ⟨Nat.le_of_ble_eq_true rfl, Nat.le_of_ble_eq_true rfl⟩ dL_holds_107 rfl ?_
                    have hj : ∀ (z11 : Int32), z11 = (if w9.2 < 0 then 0 else 1) → J C 0 0 w9.1 118 [(3, .int (x3 + (if 0 ≤ x4 then w2.2 else 0))), (6, .int (if w3 = 1 then 1 else 0)), (5, .int w2.2), (0, rf x0), (1, .int x1), (2, .int x2), (4, .int x4)] [.int z11, .int (if w3 = 1 then 1 else 0)] := by
                      intro z11 ez11
                      subst ez11
                      refine J_icmp_eq (tgt := 123) hC dL_holds_118 (by decide) (fun c10 => ?_) (fun c10 => ?_)
                      · have h := ite_t c10 h
                        refine J_inc (j := 6) (k := 1) (lv' := [(4, .int (x4 + 1)), (3, .int (x3 + (if 0 ≤ x4 then w2.2 else 0))), (6, .int (if w3 = 1 then 1 else 0)), (5, .int w2.2), (0, rf x0), (1, .int x1), (2, .int x2)]) hC dL_holds_123 (by decide) rfl (by decide) rfl ?_
                        refine J_goto (tgt := 5) hC dL_holds_126 (by decide) ?_
                        refine J_sub [4, 5, 6, 1, 0] rfl ?_
                        exact ih w9.1 (x3 + (if 0 ≤ x4 then w2.2 else 0)) (x4 + 1) h
                      · have h := ite_f c10 h
                        refine J_sub [3, 4, 5, 0, 6] rfl ?_
                        exact hk121 w9.1 (x3 + (if 0 ≤ x4 then w2.2 else 0)) x4 h
                    refine J_if_lt (tgt := 117) hC dL_holds_110 (by decide) (fun c12 => ?_) (fun c12 => ?_)
                    · refine J_iconst (v := 0) hC dL_holds_117 (by decide) ?_
                      refine J_sub [0, 1, 2, 3, 4, 5, 6] rfl ?_
                      exact hj _ (if_pos c12).symm
                    · refine J_iconst (v := 1) hC dL_holds_113 (by decide) ?_
                      refine J_goto (tgt := 118) hC dL_holds_114 (by decide) ?_
                      refine J_sub [0, 1, 2, 3, 4, 5, 6] rfl ?_
                      exact hj _ (if_neg c12).symm
                refine J_if_le (tgt := 97) hC dL_holds_90 (by decide) (fun c14 => ?_) (fun c14 => ?_)
                · refine J_iconst (v := 0) hC dL_holds_97 (by decide) ?_
                  refine J_sub [0, 1, 2, 3, 4, 5, 6] rfl ?_
                  exact hj _ (if_pos c14).symm
                · refine J_iconst (v := 1) hC dL_holds_93 (by decide) ?_
                  refine J_goto (tgt := 98) hC dL_holds_94 (by decide) ?_
                  refine J_sub [0, 1, 2, 3, 4, 5, 6] rfl ?_
                  exact hj _ (if_neg c14).symm
            refine J_if_le (tgt := 77) hC dL_holds_70 (by decide) (fun c16 => ?_) (fun c16 => ?_)
            · refine J_iconst (v := 0) hC dL_holds_77 (by decide) ?_
              refine J_sub [0, 1, 2, 3, 4, 5, 6] rfl ?_
              exact hj _ (if_pos c16).symm
            · refine J_iconst (v := 1) hC dL_holds_73 (by decide) ?_
              refine J_goto (tgt := 78) hC dL_holds_74 (by decide) ?_
              refine J_sub [0, 1, 2, 3, 4, 5, 6] rfl ?_
              exact hj _ (if_neg c16).symm
        refine J_if_ge (tgt := 49) hC dL_holds_42 (by decide) (fun c18 => ?_) (fun c18 => ?_)
        · refine J_iload (j := 1) hC dL_holds_49 rfl ?_
          refine J_sub [0, 1, 2, 3, 4, 5, 6] rfl ?_
          exact hj _ (if_pos c18).symm
        · refine J_iconst (v := 0) hC dL_holds_45 (by decide) ?_
          refine J_goto (tgt := 51) hC dL_holds_46 (by decide) ?_
          refine J_sub [0, 1, 2, 3, 4, 5, 6] rfl ?_
          exact hj _ (if_neg c18).symm
      refine J_icmp_ne (tgt := 36) hC dL_holds_29 (by decide) (fun c20 => ?_) (fun c20 => ?_)
      · refine J_iconst (v := 0) hC dL_holds_36 (by decide) ?_
        refine J_sub [0, 1, 2, 3, 4, 5] rfl ?_
        exact hj _ (if_neg c20).symm
      · refine J_iconst (v := 1) hC dL_holds_32 (by decide) ?_
        refine J_goto (tgt := 37) hC dL_holds_33 (by decide) ?_
        refine J_sub [0, 1, 2, 3, 4, 5] rfl ?_
        exact hj _ (if_pos c20).symm
set_option maxHeartbeats 4000000 in
set_option maxRecDepth 100000 in
theorem tL_holds_219 {C : JC} {r0 : Mem × Int32} (x0 : Option Nat) (x1 : Int32) (x2 : Int32) (x3 : Int32) (x4 : Int32) (hC : Ok C false cL_holds 9 rm_L_holds (some .boolean) RL (r0.1, Sum.inr (some (Value.int r0.2))))  (k254 : Mem → Int32 → Int32 → Option (Mem × Int32)) (hk254 : ∀ (M : Mem) (x5 : Int32) (x6 : Int32), k254 M x5 x6 = some r0 → J C 0 0 M 254 [(0, rf x0), (1, .int x1), (2, .int x2), (3, .int x3), (4, .int x4), (5, .int x5), (6, .int x6)] []) : ∀ (n : Nat) (M : Mem) (x5 : Int32) (x6 : Int32), fL_holds_219 x0 x1 x2 x3 x4 k254 n M x5 x6 = some r0 → J C 0 0 M 219 [(0, rf x0), (1, .int x1), (2, .int x2), (3, .int x3), (4, .int x4), (5, .int x5), (6, .int x6)] [] := by
  intro n
  induction n with
  | zero => intro M x5 x6 h; have h : none = some r0 := h; cases h
  | succ n ih =>
    intro M x5 x6 h
    rw [fL_holds_219] at h
    refine J_iload (j := 6) hC dL_holds_219 rfl ?_
    refine J_bipush (v := 9) hC dL_holds_221 (by decide) ?_
    refine J_icmp_ge (tgt := 254) hC dL_holds_223 (by decide) (fun c41 => ?_) (fun c41 => ?_)
    · have h := ite_t c41 h
      refine J_sub [0, 1, 2, 3, 4, 5, 6] rfl ?_
      exact hk254 M x5 x6 h
    · have h := ite_f c41 h
      refine J_iload (j := 5) hC dL_holds_226 rfl ?_
      refine J_if_eq (tgt := 245) hC dL_holds_228 (by decide) (fun c42 => ?_) (fun c42 => ?_)
      · have h := ite_t c42 h
        cases h
      · have h := ite_f c42 h
        refine J_aload_n (j := 0) hC dL_holds_231 rfl ?_
        refine J_iload_n (j := 1) hC dL_holds_232 rfl ?_
        refine J_iload (j := 6) hC dL_holds_233 rfl ?_
        refine ck_c h (fun ho h => ?_)
        refine bnd_c h (fun w43 hw h => ?_)
        refine J_callV (As := [.int x1, .int x6]) (M' := M) (rv := some (Value.int w43)) (st := []) hC (fun l hl => cX2_sign_ok M x0 x1 x6 _ hw l hl) vm_X2_sign k_L_70 ho ⟨rfl, rfl⟩ rfl ⟨Nat.le_of_ble_eq_true rfl, Nat.le_of_ble_eq_true rfl⟩ (Nat.zero_le _) ⟨Nat.le_of_ble_eq_true rfl, Nat.le_of_ble_eq_true rfl⟩ dL_holds_235 rfl ?_
        refine J_if_ne (tgt := 245) hC dL_holds_238 (by decide) (fun c44 => ?_) (fun c44 => ?_)
        · have h := ite_f c44 h
          cases h
        · have h := ite_t c44 h
          refine J_iconst (v := 1) hC dL_holds_241 (by decide) ?_
          refine J_goto (tgt := 246) hC dL_holds_242 (by decide) ?_
          refine J_istore (lv' := [(5, .int 1), (0, rf x0), (1, .int x1), (2, .int x2), (3, .int x3), (4, .int x4), (6, .int x6)]) hC dL_holds_246 (by decide) rfl ?_
          refine J_inc (j := 6) (k := 1) (lv' := [(6, .int (x6 + 1)), (5, .int 1), (0, rf x0), (1, .int x1), (2, .int x2), (3, .int x3), (4, .int x4)]) hC dL_holds_248 (by decide) rfl (by decide) rfl ?_
          refine J_goto (tgt := 219) hC dL_holds_251 (by decide) ?_
          refine J_sub [2, 3, 4, 5, 6, 1, 0] rfl ?_
          exact ih M 1 (x6 + 1) h
set_option maxHeartbeats 4000000 in
set_option maxRecDepth 100000 in
theorem tL_holds_257 {C : JC} {r0 : Mem × Int32} (x0 : Option Nat) (x1 : Int32) (x2 : Int32) (x3 : Int32) (x4 : Int32) (hC : Ok C false cL_holds 9 rm_L_holds (some .boolean) RL (r0.1, Sum.inr (some (Value.int r0.2))))  (k367 : Mem → Int32 → Int32 → Option (Mem × Int32)) (hk367 : ∀ (M : Mem) (x5 : Int32) (x6 : Int32), k367 M x5 x6 = some r0 → J C 0 0 M 367 [(0, rf x0), (1, .int x1), (2, .int x2), (3, .int x3), (4, .int x4), (5, .int x5), (6, .int x6)] []) : ∀ (n : Nat) (M : Mem) (x5 : Int32) (x6 : Int32), fL_holds_257 x0 x1 x2 x3 x4 k367 n M x5 x6 = some r0 → J C 0 0 M 257 [(0, rf x0), (1, .int x1), (2, .int x2), (3, .int x3), (4, .int x4), (5, .int x5), (6, .int x6)] [] := by
  intro n
  induction n with
  | zero => intro M x5 x6 h; have h : none = some r0 := h; cases h
  | succ n ih =>
    intro M x5 x6 h
    rw [fL_holds_257] at h
    refine J_iload (j := 6) hC dL_holds_257 rfl ?_
    refine J_iconst (v := 2) hC dL_holds_259 (by decide) ?_
    refine J_icmp_ge (tgt := 367) hC dL_holds_260 (by decide) (fun c48 => ?_) (fun c48 => ?_)
    · have h := ite_t c48 h
      refine J_sub [0, 1, 2, 3, 4, 5, 6] rfl ?_
      exact hk367 M x5 x6 h
    · have h := ite_f c48 h
      refine J_iload (j := 5) hC dL_holds_263 rfl ?_
      refine J_if_eq (tgt := 312) hC dL_holds_265 (by decide) (fun c49 => ?_) (fun c49 => ?_)
      · have h := ite_t c49 h
        cases h
      · have h := ite_f c49 h
        refine J_aload_n (j := 0) hC dL_holds_268 rfl ?_
        refine J_iload_n (j := 1) hC dL_holds_269 rfl ?_
        refine J_iload_n (j := 2) hC dL_holds_270 rfl ?_
        refine J_iload (j := 6) hC dL_holds_271 rfl ?_
        refine ck_c h (fun ho h => ?_)
        refine bnd_c h (fun w50 hw h => ?_)
        refine J_callV (As := [.int x1, .int x2, .int x6]) (M' := M) (rv := some (Value.int w50)) (st := []) hC (fun l hl => cX2_many_ok M x0 x1 x2 x6 _ hw l hl) vm_X2_many k_L_73 ho ⟨rfl, rfl⟩ rfl ⟨Nat.le_of_ble_eq_true rfl, Nat.le_of_ble_eq_true rfl⟩ (Nat.zero_le _) ⟨Nat.le_of_ble_eq_true rfl, Nat.le_of_ble_eq_true rfl⟩ dL_holds_273 rfl ?_
        refine J_aload_n (j := 0) hC dL_holds_276 rfl ?_
        refine J_iload_n (j := 2) hC dL_holds_277 rfl ?_
        refine J_iload_n (j := 1) hC dL_holds_278 rfl ?_
        refine J_iload (j := 6) hC dL_holds_279 rfl ?_
        refine ck_c h (fun ho h => ?_)
        refine bnd_c h (fun w51 hw h => ?_)
        refine J_callV (As := [.int x2, .int x1, .int x6]) (M' := M) (rv := some (Value.int w51)) (st := [.int w50]) hC (fun l hl => cX2_many_ok M x0 x2 x1 x6 _ hw l hl) vm_X2_many k_L_73 ho ⟨rfl, rfl⟩ rfl ⟨Nat.le_of_ble_eq_true rfl, Nat.le_of_ble_eq_true rfl⟩ (Nat.le_of_ble_eq_true rfl) ⟨Nat.le_of_ble_eq_true rfl, Nat.le_of_ble_eq_true rfl⟩ dL_holds_281 rfl ?_
        refine J_icmp_ne (tgt := 312) hC dL_holds_284 (by decide) (fun c52 => ?_) (fun c52 => ?_)
        · have h := ite_f c52 h
          cases h
        · have h := ite_t c52 h
          refine J_aload_n (j := 0) hC dL_holds_287 rfl ?_
          refine J_iconst (v := 0) hC dL_holds_288 (by decide) ?_
          refine J_iload_n (j := 1) hC dL_holds_289 rfl ?_
          refine J_iload_n (j := 2) hC dL_holds_290 rfl ?_
          refine J_iload (j := 6) hC dL_holds_291 rfl ?_
          refine ck_c h (fun ho h => ?_)
          refine bnd_c h (fun w53 hw h => ?_)
          refine J_callV (As := [.int 0, .int x1, .int x2, .int x6]) (M' := M) (rv := some (Value.int w53)) (st := []) hC (fun l hl => cX2_isIn_ok M x0 0 x1 x2 x6 _ hw l hl) vm_X2_isIn k_L_66 ho ⟨rfl, rfl⟩ rfl ⟨Nat.le_of_ble_eq_true rfl, Nat.le_of_ble_eq_true rfl⟩ (Nat.zero_le _) ⟨Nat.le_of_ble_eq_true rfl, Nat.le_of_ble_eq_true rfl⟩ dL_holds_293 rfl ?_
          refine J_aload_n (j := 0) hC dL_holds_296 rfl ?_
          refine J_iconst (v := 0) hC dL_holds_297 (by decide) ?_
          refine J_iload_n (j := 2) hC dL_holds_298 rfl ?_
          refine J_iload_n (j := 1) hC dL_holds_299 rfl ?_
          refine J_iload (j := 6) hC dL_holds_300 rfl ?_
          refine ck_c h (fun ho h => ?_)
          refine bnd_c h (fun w54 hw h => ?_)
          refine J_callV (As := [.int 0, .int x2, .int x1, .int x6]) (M' := M) (rv := some (Value.int w54)) (st := [.int w53]) hC (fun l hl => cX2_isIn_ok M x0 0 x2 x1 x6 _ hw l hl) vm_X2_isIn k_L_66 ho ⟨rfl, rfl⟩ rfl ⟨Nat.le_of_ble_eq_true rfl, Nat.le_of_ble_eq_true rfl⟩ (Nat.le_of_ble_eq_true rfl) ⟨Nat.le_of_ble_eq_true rfl, Nat.le_of_ble_eq_true rfl⟩ dL_holds_302 rfl ?_
          refine J_icmp_ne (tgt := 312) hC dL_holds_305 (by decide) (fun c55 => ?_) (fun c55 => ?_)
          · have h := ite_f c55 h
            cases h
          · have h := ite_t c55 h
            refine J_iconst (v := 1) hC dL_holds_308 (by decide) ?_
            refine J_goto (tgt := 313) hC dL_holds_309 (by decide) ?_
            refine J_istore (lv' := [(5, .int 1), (0, rf x0), (1, .int x1), (2, .int x2), (3, .int x3), (4, .int x4), (6, .int x6)]) hC dL_holds_313 (by decide) rfl ?_
            refine J_iload (j := 0) hC dL_holds_315 rfl ?_
            refine J_if_eq (tgt := 358) hC dL_holds_317 (by decide) (fun c => absurd c (by decide)) (fun _ => ?_)
            refine J_iload (j := 6) hC dL_holds_320 rfl ?_
            refine J_if_eq (tgt := 354) hC dL_holds_322 (by decide) (fun c56 => ?_) (fun c56 => ?_)
            · have h := ite_t c56 h
              refine J_iconst (v := 1) hC dL_holds_354 (by decide) ?_
              refine J_goto (tgt := 359) hC dL_holds_355 (by decide) ?_
              refine J_istore (lv' := [(5, .int 1), (0, rf x0), (1, .int x1), (2, .int x2), (3, .int x3), (4, .int x4), (6, .int x6)]) hC dL_holds_359 (by decide) rfl ?_
              refine J_inc (j := 6) (k := 1) (lv' := [(6, .int (x6 + 1)), (5, .int 1), (0, rf x0), (1, .int x1), (2, .int x2), (3, .int x3), (4, .int x4)]) hC dL_holds_361 (by decide) rfl (by decide) rfl ?_
              refine J_goto (tgt := 257) hC dL_holds_364 (by decide) ?_
              refine J_sub [2, 3, 4, 5, 6, 1, 0] rfl ?_
              exact ih M 1 (x6 + 1) h
            · have h := ite_f c56 h
              refine J_aload_n (j := 1) hC dL_holds_325 rfl ?_
              refine J_iconst (v := 0) hC dL_holds_326 (by decide) ?_
              refine J_iload_n (j := 2) hC dL_holds_327 rfl ?_
              refine J_iload_n (j := 3) hC dL_holds_328 rfl ?_
              refine J_iconst (v := 1) hC dL_holds_329 (by decide) ?_
              refine ck_c h (fun ho h => ?_)
              refine bnd_c h (fun w57 hw h => ?_)
              refine J_callV (As := [.int 0, .int x1, .int x2, .int 1]) (M' := M) (rv := some (Value.int w57)) (st := []) hC (fun l hl => cX2_isIn_ok M x0 0 x1 x2 1 _ hw l hl) vm_X2_isIn k_L_66 ho ⟨rfl, rfl⟩ rfl ⟨Nat.le_of_ble_eq_true rfl, Nat.le_of_ble_eq_true rfl⟩ (Nat.zero_le _) ⟨Nat.le_of_ble_eq_true rfl, Nat.le_of_ble_eq_true rfl⟩ dL_holds_330 rfl ?_
              refine J_if_eq (tgt := 354) hC dL_holds_333 (by decide) (fun c58 => ?_) (fun c58 => ?_)
              · have h := ite_t c58 h
                refine J_iconst (v := 1) hC dL_holds_354 (by decide) ?_
                refine J_goto (tgt := 359) hC dL_holds_355 (by decide) ?_
                refine J_istore (lv' := [(5, .int 1), (0, rf x0), (1, .int x1), (2, .int x2), (3, .int x3), (4, .int x4), (6, .int x6)]) hC dL_holds_359 (by decide) rfl ?_
                refine J_inc (j := 6) (k := 1) (lv' := [(6, .int (x6 + 1)), (5, .int 1), (0, rf x0), (1, .int x1), (2, .int x2), (3, .int x3), (4, .int x4)]) hC dL_holds_361 (by decide) rfl (by decide) rfl ?_
                refine J_goto (tgt := 257) hC dL_holds_364 (by decide) ?_
                refine J_sub [2, 3, 4, 5, 6, 1, 0] rfl ?_
                exact ih M 1 (x6 + 1) h
              · have h := ite_f c58 h
                refine J_aload_n (j := 1) hC dL_holds_336 rfl ?_
                refine J_iconst (v := 0) hC dL_holds_337 (by decide) ?_
                refine J_iconst (v := 0) hC dL_holds_338 (by decide) ?_
                refine ck_c h (fun ho h => ?_)
                refine bnd_c h (fun w59 hw h => ?_)
                refine J_callV (As := [.int 0, .int 0]) (M' := M) (rv := some (Value.int w59)) (st := []) hC (fun l hl => cX2_of_ok M x0 0 0 _ hw l hl) vm_X2_of k_L_18 ho ⟨rfl, rfl⟩ rfl ⟨Nat.le_of_ble_eq_true rfl, Nat.le_of_ble_eq_true rfl⟩ (Nat.zero_le _) ⟨Nat.le_of_ble_eq_true rfl, Nat.le_of_ble_eq_true rfl⟩ dL_holds_339 rfl ?_
                refine J_iload (j := 5) hC dL_holds_342 rfl ?_
                refine J_aload_n (j := 1) hC dL_holds_344 rfl ?_
                refine J_iload_n (j := 3) hC dL_holds_345 rfl ?_
                refine J_iconst (v := 0) hC dL_holds_346 (by decide) ?_
                refine ck_c h (fun ho h => ?_)
                refine bnd_c h (fun w60 hw h => ?_)
                refine J_callV (As := [.int x2, .int 0]) (M' := M) (rv := some (Value.int w60)) (st := [.int x4, .int w59]) hC (fun l hl => cX2_of_ok M x0 x2 0 _ hw l hl) vm_X2_of k_L_18 ho ⟨rfl, rfl⟩ rfl ⟨Nat.le_of_ble_eq_true rfl, Nat.le_of_ble_eq_true rfl⟩ (Nat.le_of_ble_eq_true rfl) ⟨Nat.le_of_ble_eq_true rfl, Nat.le_of_ble_eq_true rfl⟩ dL_holds_347 rfl ?_
                refine J_iadd hC dL_holds_350 ?_
                refine J_icmp_ne (tgt := 358) hC dL_holds_351 (by decide) (fun c61 => ?_) (fun c61 => ?_)
                · have h := ite_f c61 h
                  cases h
                · have h := ite_t c61 h
                  refine J_iconst (v := 1) hC dL_holds_354 (by decide) ?_
                  refine J_goto (tgt := 359) hC dL_holds_355 (by decide) ?_
                  refine J_istore (lv' := [(5, .int 1), (0, rf x0), (1, .int x1), (2, .int x2), (3, .int x3), (4, .int x4), (6, .int x6)]) hC dL_holds_359 (by decide) rfl ?_
                  refine J_inc (j := 6) (k := 1) (lv' := [(6, .int (x6 + 1)), (5, .int 1), (0, rf x0), (1, .int x1), (2, .int x2), (3, .int x3), (4, .int x4)]) hC dL_holds_361 (by decide) rfl (by decide) rfl ?_
                  refine J_goto (tgt := 257) hC dL_holds_364 (by decide) ?_
                  refine J_sub [2, 3, 4, 5, 6, 1, 0] rfl ?_
                  exact ih M 1 (x6 + 1) h
set_option maxHeartbeats 4000000 in
set_option maxRecDepth 100000 in
theorem cL_holds_ok (M : Mem) (a0 : Option Nat) (a1 : Int32) (a2 : Int32) (r0 : Mem × Int32) (h : fL_holds M a0 a1 a2 = some r0) : ∀ l : Launch, l.stackTraces = false → Con false l yL_holds cL_holds 9 (some .boolean) rm_L_holds [rf a0, .int a1, .int a2] M (r0.1, Sum.inr (some (Value.int r0.2))) := by
  intro l hst
  refine Con.enter hst (own := RL) (by decide +kernel) rfl (by exact Nat.le_of_ble_eq_true rfl) (lv0 := [(0, rf a0), (1, .int a1), (2, .int a2)]) (rfl) (fun C hC hin => ?_)
  unfold fL_holds at h
  refine J_iconst (v := 0) hC dL_holds_0 (by decide) ?_
  refine J_istore_n (i := 3) (lv' := [(3, .int 0), (0, rf a0), (1, .int a1), (2, .int a2)]) rfl hC dL_holds_1 (by decide) rfl ?_
  refine J_iconst (v := (-1)) hC dL_holds_2 (by decide) ?_
  refine J_istore (lv' := [(4, .int (-1)), (3, .int 0), (0, rf a0), (1, .int a1), (2, .int a2)]) hC dL_holds_3 (by decide) rfl ?_
  refine J_sub [2, 3, 4, 1, 0] rfl ?_
  refine tL_holds_5 a0 a1 a2 hC _ _ (fun M21 x22 x23 h => ?_) (fun M24 x25 x26 h => ?_) FU M 0 (-1) h
  · cases h
  · refine J_aload_n (j := 0) hC dL_holds_129 rfl ?_
    refine J_iload_n (j := 1) hC dL_holds_130 rfl ?_
    refine J_iconst (v := 0) hC dL_holds_131 (by decide) ?_
    refine ck_c h (fun ho h => ?_)
    refine bnd_c h (fun w27 hw h => ?_)
    refine J_callV (As := [.int a1, .int 0]) (M' := M24) (rv := some (Value.int w27)) (st := []) hC (fun l hl => cX2_of_ok M24 a0 a1 0 _ hw l hl) vm_X2_of k_L_18 ho ⟨rfl, rfl⟩ rfl ⟨Nat.le_of_ble_eq_true rfl, Nat.le_of_ble_eq_true rfl⟩ (Nat.zero_le _) ⟨Nat.le_of_ble_eq_true rfl, Nat.le_of_ble_eq_true rfl⟩ dL_holds_132 rfl ?_
    refine J_istore (lv' := [(4, .int w27), (0, rf a0), (1, .int a1), (2, .int a2), (3, .int x25)]) hC dL_holds_135 (by decide) rfl ?_
    refine J_aload_n (j := 1) hC dL_holds_137 rfl ?_
    refine J_iload_n (j := 2) hC dL_holds_138 rfl ?_
    refine J_iload_n (j := 2) hC dL_holds_139 rfl ?_
    refine J_iload_n (j := 2) hC dL_holds_140 rfl ?_
    refine J_iconst (v := 0) hC dL_holds_141 (by decide) ?_
    refine ck_c h (fun ho h => ?_)
    refine bnd_c h (fun w28 hw h => ?_)
    refine J_callV (As := [.int a1, .int a1, .int a1, .int 0]) (M' := M24) (rv := some (Value.int w28)) (st := []) hC (fun l hl => cX2_isIn_ok M24 a0 a1 a1 a1 0 _ hw l hl) vm_X2_isIn k_L_66 ho ⟨rfl, rfl⟩ rfl ⟨Nat.le_of_ble_eq_true rfl, Nat.le_of_ble_eq_true rfl⟩ (Nat.zero_le _) ⟨Nat.le_of_ble_eq_true rfl, Nat.le_of_ble_eq_true rfl⟩ dL_holds_142 rfl ?_
    refine J_iconst (v := 1) hC dL_holds_145 (by decide) ?_
    refine J_icmp_ne (tgt := 210) hC dL_holds_146 (by decide) (fun c29 => ?_) (fun c29 => ?_)
    · have h := ite_f c29 h
      cases h
    · have h := ite_t c29 h
      refine J_aload_n (j := 1) hC dL_holds_149 rfl ?_
      refine J_iload_n (j := 2) hC dL_holds_150 rfl ?_
      refine J_iconst (v := 0) hC dL_holds_151 (by decide) ?_
      refine ck_c h (fun ho h => ?_)
      refine bnd_c h (fun w30 hw h => ?_)
      refine J_callV (As := [.int a1, .int 0]) (M' := w30.1) (rv := some (Value.int w30.2)) (st := []) hC (fun l hl => cX2_quotients_ok M24 a0 a1 0 _ hw l hl) vm_X2_quotients k_L_60 ho ⟨rfl, rfl⟩ rfl ⟨Nat.le_of_ble_eq_true rfl, Nat.le_of_ble_eq_true rfl⟩ (Nat.zero_le _) ⟨Nat.le_of_ble_eq_true rfl, Nat.le_of_ble_eq_true rfl⟩ dL_holds_152 rfl ?_
      refine J_iconst (v := 1) hC dL_holds_155 (by decide) ?_
      refine J_icmp_gt (tgt := 210) hC dL_holds_156 (by decide) (fun c31 => ?_) (fun c31 => ?_)
      · have h := ite_t c31 h
        cases h
      · have h := ite_f c31 h
        refine J_iload_n (j := 4) hC dL_holds_159 rfl ?_
        refine J_iload (j := 0) hC dL_holds_160 rfl ?_
        refine J_icmp_gt (tgt := 210) hC dL_holds_162 (by decide) (fun c32 => ?_) (fun c32 => ?_)
        · have h := ite_t c32 h
          cases h
        · have h := ite_f c32 h
          refine J_aload_n (j := 1) hC dL_holds_165 rfl ?_
          refine J_iload_n (j := 2) hC dL_holds_166 rfl ?_
          refine J_iconst (v := 2) hC dL_holds_167 (by decide) ?_
          refine ck_c h (fun ho h => ?_)
          refine bnd_c h (fun w33 hw h => ?_)
          refine J_callV (As := [.int a1, .int 2]) (M' := w30.1) (rv := some (Value.int w33)) (st := []) hC (fun l hl => cX2_of_ok w30.1 a0 a1 2 _ hw l hl) vm_X2_of k_L_18 ho ⟨rfl, rfl⟩ rfl ⟨Nat.le_of_ble_eq_true rfl, Nat.le_of_ble_eq_true rfl⟩ (Nat.zero_le _) ⟨Nat.le_of_ble_eq_true rfl, Nat.le_of_ble_eq_true rfl⟩ dL_holds_168 rfl ?_
          refine J_aload_n (j := 1) hC dL_holds_171 rfl ?_
          refine J_iload_n (j := 2) hC dL_holds_172 rfl ?_
          refine J_iconst (v := 1) hC dL_holds_173 (by decide) ?_
          refine J_iconst (v := 1) hC dL_holds_174 (by decide) ?_
          refine ck_c h (fun ho h => ?_)
          refine bnd_c h (fun w34 hw h => ?_)
          refine J_callV (As := [.int a1, .int 1, .int 1]) (M' := w34.1) (rv := some (Value.int w34.2)) (st := [.int w33]) hC (fun l hl => cX2_times_ok w30.1 a0 a1 1 1 _ hw l hl) vm_X2_times k_L_54 ho ⟨rfl, rfl⟩ rfl ⟨Nat.le_of_ble_eq_true rfl, Nat.le_of_ble_eq_true rfl⟩ (Nat.le_of_ble_eq_true rfl) ⟨Nat.le_of_ble_eq_true rfl, Nat.le_of_ble_eq_true rfl⟩ dL_holds_175 rfl ?_
          refine J_icmp_ne (tgt := 210) hC dL_holds_178 (by decide) (fun c35 => ?_) (fun c35 => ?_)
          · have h := ite_f c35 h
            cases h
          · have h := ite_t c35 h
            refine J_aload_n (j := 1) hC dL_holds_181 rfl ?_
            refine J_iload_n (j := 2) hC dL_holds_182 rfl ?_
            refine J_iconst (v := 2) hC dL_holds_183 (by decide) ?_
            refine ck_c h (fun ho h => ?_)
            refine bnd_c h (fun w36 hw h => ?_)
            refine J_callV (As := [.int a1, .int 2]) (M' := w34.1) (rv := some (Value.int w36)) (st := []) hC (fun l hl => cX2_of_ok w34.1 a0 a1 2 _ hw l hl) vm_X2_of k_L_18 ho ⟨rfl, rfl⟩ rfl ⟨Nat.le_of_ble_eq_true rfl, Nat.le_of_ble_eq_true rfl⟩ (Nat.zero_le _) ⟨Nat.le_of_ble_eq_true rfl, Nat.le_of_ble_eq_true rfl⟩ dL_holds_184 rfl ?_
            refine J_aload_n (j := 1) hC dL_holds_187 rfl ?_
            refine J_iload_n (j := 2) hC dL_holds_188 rfl ?_
            refine J_iconst (v := 1) hC dL_holds_189 (by decide) ?_
            refine ck_c h (fun ho h => ?_)
            refine bnd_c h (fun w37 hw h => ?_)
            refine J_callV (As := [.int a1, .int 1]) (M' := w34.1) (rv := some (Value.int w37)) (st := [.int w36]) hC (fun l hl => cX2_of_ok w34.1 a0 a1 1 _ hw l hl) vm_X2_of k_L_18 ho ⟨rfl, rfl⟩ rfl ⟨Nat.le_of_ble_eq_true rfl, Nat.le_of_ble_eq_true rfl⟩ (Nat.le_of_ble_eq_true rfl) ⟨Nat.le_of_ble_eq_true rfl, Nat.le_of_ble_eq_true rfl⟩ dL_holds_190 rfl ?_
            refine J_icmp_ge (tgt := 210) hC dL_holds_193 (by decide) (fun c38 => ?_) (fun c38 => ?_)
            · have h := ite_t c38 h
              cases h
            · have h := ite_f c38 h
              refine J_aload_n (j := 1) hC dL_holds_196 rfl ?_
              refine J_iload_n (j := 2) hC dL_holds_197 rfl ?_
              refine J_iload (j := 0) hC dL_holds_198 rfl ?_
              refine ck_c h (fun ho h => ?_)
              refine bnd_c h (fun w39 hw h => ?_)
              refine J_callV (As := [.int a1, .int w27]) (M' := w34.1) (rv := some (Value.int w39)) (st := []) hC (fun l hl => cX2_sign_ok w34.1 a0 a1 w27 _ hw l hl) vm_X2_sign k_L_70 ho ⟨rfl, rfl⟩ rfl ⟨Nat.le_of_ble_eq_true rfl, Nat.le_of_ble_eq_true rfl⟩ (Nat.zero_le _) ⟨Nat.le_of_ble_eq_true rfl, Nat.le_of_ble_eq_true rfl⟩ dL_holds_200 rfl ?_
              refine J_if_eq (tgt := 210) hC dL_holds_203 (by decide) (fun c40 => ?_) (fun c40 => ?_)
              · have h := ite_t c40 h
                cases h
              · have h := ite_f c40 h
                refine J_iconst (v := 1) hC dL_holds_206 (by decide) ?_
                refine J_goto (tgt := 211) hC dL_holds_207 (by decide) ?_
                refine J_istore (lv' := [(5, .int 1), (4, .int w27), (0, rf a0), (1, .int a1), (2, .int a2), (3, .int x25)]) hC dL_holds_211 (by decide) rfl ?_
                refine J_iload (j := 1) hC dL_holds_213 rfl ?_
                refine J_iconst (v := 1) hC dL_holds_215 (by decide) ?_
                refine J_iadd hC dL_holds_216 ?_
                refine J_istore (lv' := [(6, .int (w27 + 1)), (5, .int 1), (4, .int w27), (0, rf a0), (1, .int a1), (2, .int a2), (3, .int x25)]) hC dL_holds_217 (by decide) rfl ?_
                refine J_sub [3, 4, 5, 6, 2, 1, 0] rfl ?_
                refine tL_holds_219 a0 a1 a2 x25 w27 hC _ (fun M45 x46 x47 h => ?_) FU w34.1 1 (w27 + 1) h
                · refine J_iconst (v := 0) hC dL_holds_254 (by decide) ?_
                  refine J_istore (lv' := [(6, .int 0), (0, rf a0), (1, .int a1), (2, .int a2), (3, .int x25), (4, .int w27), (5, .int x46)]) hC dL_holds_255 (by decide) rfl ?_
                  refine J_sub [1, 2, 3, 4, 5, 6, 0] rfl ?_
                  refine tL_holds_257 a0 a1 a2 x25 w27 hC _ (fun M62 x63 x64 h => ?_) FU M45 x46 0 h
                  · refine J_aload_n (j := 0) hC dL_holds_367 rfl ?_
                    refine J_iconst (v := 0) hC dL_holds_368 (by decide) ?_
                    refine ck_c h (fun ho h => ?_)
                    refine bnd_c h (fun w65 hw h => ?_)
                    refine J_callV (As := [.int 0]) (M' := M62) (rv := some (Value.int w65)) (st := []) hC (fun l hl => cX2_count_ok M62 a0 0 _ hw l hl) vm_X2_count k_L_12 ho ⟨rfl, rfl⟩ rfl ⟨Nat.le_of_ble_eq_true rfl, Nat.le_of_ble_eq_true rfl⟩ (Nat.zero_le _) ⟨Nat.le_of_ble_eq_true rfl, Nat.le_of_ble_eq_true rfl⟩ dL_holds_369 rfl ?_
                    refine J_istore (lv' := [(6, .int w65), (0, rf a0), (1, .int a1), (2, .int a2), (3, .int x25), (4, .int w27), (5, .int x63)]) hC dL_holds_372 (by decide) rfl ?_
                    refine J_aload_n (j := 1) hC dL_holds_374 rfl ?_
                    refine J_iload (j := 0) hC dL_holds_375 rfl ?_
                    refine ck_c h (fun ho h => ?_)
                    refine bnd_c h (fun w66 hw h => ?_)
                    refine J_callV (As := [.int w65]) (M' := w66.1) (rv := some (Value.long w66.2)) (st := []) hC (fun l hl => cX2_coefficient_ok M62 a0 w65 _ hw l hl) vm_X2_coefficient k_L_22 ho ⟨rfl, rfl⟩ rfl ⟨Nat.le_of_ble_eq_true rfl, Nat.le_of_ble_eq_true rfl⟩ (Nat.zero_le _) ⟨Nat.le_of_ble_eq_true rfl, Nat.le_of_ble_eq_true rfl⟩ dL_holds_377 rfl ?_
                    refine J_lstore (lv' := [(7, .long w66.2), (6, .int w65), (0, rf a0), (1, .int a1), (2, .int a2), (3, .int x25), (4, .int w27), (5, .int x63)]) hC dL_holds_380 (by decide) rfl ?_
                    refine J_iload (j := 7) hC dL_holds_382 rfl ?_
                    refine J_if_eq (tgt := 430) hC dL_holds_384 (by decide) (fun c67 => ?_) (fun c67 => ?_)
                    · have h := ite_t c67 h
                      cases h
                    · have h := ite_f c67 h
                      refine J_iload (j := 1) hC dL_holds_387 rfl ?_
                      refine J_aload_n (j := 2) hC dL_holds_389 rfl ?_
                      refine J_iconst (v := 1) hC dL_holds_390 (by decide) ?_
                      refine ck_c h (fun ho h => ?_)
                      refine bnd_c h (fun w68 hw h => ?_)
                      refine J_callV (As := [.int 1]) (M' := w66.1) (rv := some (Value.int w68)) (st := [.int w65]) hC (fun l hl => cX2_count_ok w66.1 a0 1 _ hw l hl) vm_X2_count k_L_12 ho ⟨rfl, rfl⟩ rfl ⟨Nat.le_of_ble_eq_true rfl, Nat.le_of_ble_eq_true rfl⟩ (Nat.le_of_ble_eq_true rfl) ⟨Nat.le_of_ble_eq_true rfl, Nat.le_of_ble_eq_true rfl⟩ dL_holds_391 rfl ?_
                      refine J_aload_n (j := 2) hC dL_holds_394 rfl ?_
                      refine J_iconst (v := 2) hC dL_holds_395 (by decide) ?_
                      refine ck_c h (fun ho h => ?_)
                      refine bnd_c h (fun w69 hw h => ?_)
                      refine J_callV (As := [.int 2]) (M' := w66.1) (rv := some (Value.int w69)) (st := [.int w68, .int w65]) hC (fun l hl => cX2_count_ok w66.1 a0 2 _ hw l hl) vm_X2_count k_L_12 ho ⟨rfl, rfl⟩ rfl ⟨Nat.le_of_ble_eq_true rfl, Nat.le_of_ble_eq_true rfl⟩ (Nat.le_of_ble_eq_true rfl) ⟨Nat.le_of_ble_eq_true rfl, Nat.le_of_ble_eq_true rfl⟩ dL_holds_396 rfl ?_
                      refine J_iadd hC dL_holds_399 ?_
                      refine J_aload_n (j := 2) hC dL_holds_400 rfl ?_
                      refine J_iconst (v := 3) hC dL_holds_401 (by decide) ?_
                      refine ck_c h (fun ho h => ?_)
                      refine bnd_c h (fun w70 hw h => ?_)
                      refine J_callV (As := [.int 3]) (M' := w66.1) (rv := some (Value.int w70)) (st := [.int (w68 + w69), .int w65]) hC (fun l hl => cX2_count_ok w66.1 a0 3 _ hw l hl) vm_X2_count k_L_12 ho ⟨rfl, rfl⟩ rfl ⟨Nat.le_of_ble_eq_true rfl, Nat.le_of_ble_eq_true rfl⟩ (Nat.le_of_ble_eq_true rfl) ⟨Nat.le_of_ble_eq_true rfl, Nat.le_of_ble_eq_true rfl⟩ dL_holds_402 rfl ?_
                      refine J_iadd hC dL_holds_405 ?_
                      refine J_icmp_ne (tgt := 430) hC dL_holds_406 (by decide) (fun c71 => ?_) (fun c71 => ?_)
                      · have h := ite_f c71 h
                        cases h
                      · have h := ite_t c71 h
                        refine J_lload (j := 0) hC dL_holds_409 rfl ?_
                        refine J_lconst (v := 1) hC dL_holds_411 (by decide) ?_
                        refine J_lcmp hC dL_holds_412 ?_
                        refine J_if_ne (tgt := 430) hC dL_holds_413 (by decide) (fun c72 => ?_) (fun c72 => ?_)
                        · have h := ite_f c72 h
                          cases h
                        · have h := ite_t c72 h
                          refine J_aload_n (j := 2) hC dL_holds_416 rfl ?_
                          refine J_iload_n (j := 3) hC dL_holds_417 rfl ?_
                          refine ck_c h (fun ho h => ?_)
                          refine bnd_c h (fun w73 hw h => ?_)
                          refine J_callV (As := [.int a1]) (M' := w66.1) (rv := some (Value.double w73)) (st := []) hC (fun l hl => cX2_takenShare_ok w66.1 a0 a1 _ hw l hl) vm_X2_takenShare k_L_76 ho ⟨rfl, rfl⟩ rfl ⟨Nat.le_of_ble_eq_true rfl, Nat.le_of_ble_eq_true rfl⟩ (Nat.zero_le _) ⟨Nat.le_of_ble_eq_true rfl, Nat.le_of_ble_eq_true rfl⟩ dL_holds_418 rfl ?_
                          refine J_dconst0 hC dL_holds_421 ?_
                          refine J_dcmp hC dL_holds_422 ?_
                          refine J_if_lt (tgt := 430) hC dL_holds_423 (by decide) (fun c74 => ?_) (fun c74 => ?_)
                          · have h := ite_t c74 h
                            cases h
                          · have h := ite_f c74 h
                            refine J_iconst (v := 1) hC dL_holds_426 (by decide) ?_
                            refine J_goto (tgt := 431) hC dL_holds_427 (by decide) ?_
                            exact J_zret hC dL_holds_431 (by decide) (by have h9 := Option.some.inj h; subst h9; rfl) (Nat.le_of_ble_eq_true rfl) (Nat.le_of_ble_eq_true rfl)
