abbrev rm_X2_isRoot : Room := { frames := 7, cells := 2, slots := 12, locals := 110 }

set_option maxHeartbeats 4000000 in
set_option maxRecDepth 100000 in
theorem cX2_isRoot_ok (M : Mem) (a0 : Option Nat) (a1 : Int32) (a2 : Int32) (r0 : String ⊕ Int32) (h : fX2_isRoot M a0 a1 a2 = some r0) : ∀ l : Launch, l.stackTraces = false → Con true l yX2_isRoot cX2_isRoot 3 (some .int) rm_X2_isRoot [rf a0, .int a1, .int a2] M (M, mapR (fun v => some (Value.int v)) r0) := by
  intro l hst
  refine Con.enterX hst (own := RX2) (by decide +kernel) rfl (by exact Nat.le_of_ble_eq_true rfl) (lv0 := [(0, rf a0), (1, .int a1), (2, .int a2)]) (rfl) (fun C hC => ?_)
  unfold fX2_isRoot at h
  refine J_iload_n (j := 1) hC dX2_isRoot_0 rfl ?_
  refine bnd_c h (fun w1 hw h => ?_)
  refine thrE_c h (fun E hE h => ?_) (fun v2 hv h => ?_)
  · exact J_thrS (E := E) (As := [.int a1]) (M' := M) (st := []) hC (fun l hl => by have h9 := cX2_checkNumber_ok M a1 _ hw l hl; rw [hE] at h9; exact h9) sm_X2_checkNumber k_X2_56 rfl ⟨Nat.le_of_ble_eq_true rfl, Nat.le_of_ble_eq_true rfl⟩ (Nat.zero_le _) ⟨Nat.le_of_ble_eq_true rfl, Nat.le_of_ble_eq_true rfl⟩ dX2_isRoot_1 rfl (by have h9 := Option.some.inj h; subst h9; rfl)
  · refine J_callSX (As := [.int a1]) (M' := M) (rv := none) (st := []) hC (fun l hl => by have h9 := cX2_checkNumber_ok M a1 _ hw l hl; rw [hv] at h9; exact h9) sm_X2_checkNumber k_X2_56 rfl ⟨Nat.le_of_ble_eq_true rfl, Nat.le_of_ble_eq_true rfl⟩ (Nat.zero_le _) ⟨Nat.le_of_ble_eq_true rfl, Nat.le_of_ble_eq_true rfl⟩ dX2_isRoot_1 rfl ?_
    refine J_iload_n (j := 2) hC dX2_isRoot_4 rfl ?_
    refine bnd_c h (fun w3 hw h => ?_)
    refine thrE_c h (fun E hE h => ?_) (fun v4 hv h => ?_)
    · exact J_thrS (E := E) (As := [.int a2]) (M' := M) (st := []) hC (fun l hl => by have h9 := cX2_checkSign_ok M a2 _ hw l hl; rw [hE] at h9; exact h9) sm_X2_checkSign k_X2_63 rfl ⟨Nat.le_of_ble_eq_true rfl, Nat.le_of_ble_eq_true rfl⟩ (Nat.zero_le _) ⟨Nat.le_of_ble_eq_true rfl, Nat.le_of_ble_eq_true rfl⟩ dX2_isRoot_5 rfl (by have h9 := Option.some.inj h; subst h9; rfl)
    · refine J_callSX (As := [.int a2]) (M' := M) (rv := none) (st := []) hC (fun l hl => by have h9 := cX2_checkSign_ok M a2 _ hw l hl; rw [hv] at h9; exact h9) sm_X2_checkSign k_X2_63 rfl ⟨Nat.le_of_ble_eq_true rfl, Nat.le_of_ble_eq_true rfl⟩ (Nat.zero_le _) ⟨Nat.le_of_ble_eq_true rfl, Nat.le_of_ble_eq_true rfl⟩ dX2_isRoot_5 rfl ?_
      refine J_aload_n (j := 0) hC dX2_isRoot_8 rfl ?_
      refine J_g2_0 hC k_X2_12 dX2_isRoot_9 h (fun v5 _ h => ?_)
      refine J_g1_0 hC k_X2_69 dX2_isRoot_12 h (fun v6 _ h => ?_)
      refine J_iload_n (j := 1) hC dX2_isRoot_15 rfl ?_
      refine J_aald9 hC dX2_isRoot_16 h (fun v7 _ h => ?_)
      refine J_iload_n (j := 2) hC dX2_isRoot_17 rfl ?_
      refine bnd_c h (fun w8 hw h => ?_)
      refine J_callS (As := [rf v7, .int a2]) (M' := M) (rv := some (Value.int w8)) (st := []) hC (fun l hl => cX2_hasRoot_ok M v7 a2 _ hw l hl) sm_X2_hasRoot k_X2_165 rfl ⟨Nat.le_of_ble_eq_true rfl, Nat.le_of_ble_eq_true rfl⟩ (Nat.zero_le _) ⟨Nat.le_of_ble_eq_true rfl, Nat.le_of_ble_eq_true rfl⟩ dX2_isRoot_18 rfl ?_
      have hj : ∀ (z9 : Int32), z9 = (if w8 = 0 then 0 else 1) → J C 2 12 M 29 [(0, rf a0), (1, .int a1), (2, .int a2)] [.int z9] := by
        intro z9 ez9
        subst ez9
        exact J_iret hC dX2_isRoot_29 (by have h9 := Option.some.inj h; subst h9; rfl) (Nat.le_of_ble_eq_true rfl) (Nat.le_of_ble_eq_true rfl)
      refine J_if_eq (tgt := 28) hC dX2_isRoot_21 (by decide) (fun c10 => ?_) (fun c10 => ?_)
      · refine J_iconst (v := 0) hC dX2_isRoot_28 (by decide) ?_
        refine J_sub [0, 1, 2] rfl ?_
        exact hj _ (if_pos c10).symm
      · refine J_iconst (v := 1) hC dX2_isRoot_24 (by decide) ?_
        refine J_goto (tgt := 29) hC dX2_isRoot_25 (by decide) ?_
        refine J_sub [0, 1, 2] rfl ?_
        exact hj _ (if_neg c10).symm
abbrev rm_X2_zerosBelow : Room := { frames := 0, cells := 0, slots := 0, locals := 0 }

set_option maxHeartbeats 4000000 in
set_option maxRecDepth 100000 in
theorem tX2_zerosBelow_4 {C : JC} {r0 : Int32} (M : Mem) (x0 : Option Nat) (hC : Ok C false cX2_zerosBelow 3 rm_X2_zerosBelow (some .int) RX2 (M, Sum.inr (some (Value.int r0))))  (k25 : Int32 → Int32 → Option (Int32)) (hk25 : ∀ (x1 : Int32) (x2 : Int32), k25 x1 x2 = some r0 → J C 0 0 M 25 [(0, rf x0), (1, .int x1), (2, .int x2)] []) : ∀ (n : Nat) (x1 : Int32) (x2 : Int32), fX2_zerosBelow_4 M x0 k25 n x1 x2 = some r0 → J C 0 0 M 4 [(0, rf x0), (1, .int x1), (2, .int x2)] [] := by
  intro n
  induction n with
  | zero => intro x1 x2 h; have h : none = some r0 := h; cases h
  | succ n ih =>
    intro x1 x2 h
    rw [fX2_zerosBelow_4] at h
    refine J_iload_n (j := 2) hC dX2_zerosBelow_4 rfl ?_
    refine J_bipush (v := 9) hC dX2_zerosBelow_5 (by decide) ?_
    refine J_icmp_ge (tgt := 25) hC dX2_zerosBelow_7 (by decide) (fun c1 => ?_) (fun c1 => ?_)
    · have h := ite_t c1 h
      refine J_sub [0, 1, 2] rfl ?_
      exact hk25 x1 x2 h
    · have h := ite_f c1 h
      refine J_aload_n (j := 0) hC dX2_zerosBelow_10 rfl ?_
      refine J_iload_n (j := 2) hC dX2_zerosBelow_11 rfl ?_
      refine J_iald hC dX2_zerosBelow_12 h (fun v2 _ h => ?_)
      refine J_if_ne (tgt := 25) hC dX2_zerosBelow_13 (by decide) (fun c3 => ?_) (fun c3 => ?_)
      · have h := ite_f c3 h
        refine J_sub [0, 1, 2] rfl ?_
        exact hk25 x1 x2 h
      · have h := ite_t c3 h
        refine J_inc (j := 1) (k := 1) (lv' := [(1, .int (x1 + 1)), (0, rf x0), (2, .int x2)]) hC dX2_zerosBelow_16 (by decide) rfl (by decide) rfl ?_
        refine J_inc (j := 2) (k := 1) (lv' := [(2, .int (x2 + 1)), (1, .int (x1 + 1)), (0, rf x0)]) hC dX2_zerosBelow_19 (by decide) rfl (by decide) rfl ?_
        refine J_goto (tgt := 4) hC dX2_zerosBelow_22 (by decide) ?_
        refine J_sub [2, 1, 0] rfl ?_
        exact ih (x1 + 1) (x2 + 1) h
set_option maxHeartbeats 4000000 in
set_option maxRecDepth 100000 in
theorem cX2_zerosBelow_ok (M : Mem) (a0 : Option Nat) (r0 : Int32) (h : fX2_zerosBelow M a0 = some r0) : ∀ l : Launch, l.stackTraces = false → Con false l yX2_zerosBelow cX2_zerosBelow 3 (some .int) rm_X2_zerosBelow [rf a0] M (M, Sum.inr (some (Value.int r0))) := by
  intro l hst
  refine Con.enter hst (own := RX2) (by decide +kernel) rfl (by exact Nat.le_of_ble_eq_true rfl) (lv0 := [(0, rf a0)]) (rfl) (fun C hC hin => ?_)
  unfold fX2_zerosBelow at h
  refine J_iconst (v := 0) hC dX2_zerosBelow_0 (by decide) ?_
  refine J_istore_n (i := 1) (lv' := [(1, .int 0), (0, rf a0)]) rfl hC dX2_zerosBelow_1 (by decide) rfl ?_
  refine J_iconst (v := 0) hC dX2_zerosBelow_2 (by decide) ?_
  refine J_istore_n (i := 2) (lv' := [(2, .int 0), (1, .int 0), (0, rf a0)]) rfl hC dX2_zerosBelow_3 (by decide) rfl ?_
  refine J_sub [2, 1, 0] rfl ?_
  refine tX2_zerosBelow_4 M a0 hC _ (fun x4 x5 h => ?_) FU 0 0 h
  · refine J_iload_n (j := 1) hC dX2_zerosBelow_25 rfl ?_
    exact J_iret hC dX2_zerosBelow_26 (by have h9 := Option.some.inj h; subst h9; rfl) (Nat.le_of_ble_eq_true rfl) (Nat.le_of_ble_eq_true rfl)
abbrev rm_X2_countedTimes : Room := { frames := 2, cells := 0, slots := 0, locals := 46 }

set_option maxHeartbeats 4000000 in
set_option maxRecDepth 100000 in
theorem cX2_countedTimes_ok (M : Mem) (a0 : Option Nat) (a1 : Int32) (r0 : Int32) (h : fX2_countedTimes M a0 a1 = some r0) : ∀ l : Launch, l.stackTraces = false → Con false l yX2_countedTimes cX2_countedTimes 2 (some .int) rm_X2_countedTimes [rf a0, .int a1] M (M, Sum.inr (some (Value.int r0))) := by
  intro l hst
  refine Con.enter hst (own := RX2) (by decide +kernel) rfl (by exact Nat.le_of_ble_eq_true rfl) (lv0 := [(0, rf a0), (1, .int a1)]) (rfl) (fun C hC hin => ?_)
  unfold fX2_countedTimes at h
  refine J_iload_n (j := 1) hC dX2_countedTimes_0 rfl ?_
  refine J_if_ne (tgt := 11) hC dX2_countedTimes_1 (by decide) (fun c1 => ?_) (fun c1 => ?_)
  · have h := ite_f c1 h
    refine J_aload_n (j := 0) hC dX2_countedTimes_11 rfl ?_
    refine J_iload_n (j := 1) hC dX2_countedTimes_12 rfl ?_
    refine bnd_c h (fun w3 hw h => ?_)
    refine J_callS (As := [rf a0, .int a1]) (M' := M) (rv := some (Value.int w3)) (st := []) hC (fun l hl => cX2_changesOf_ok M a0 a1 _ hw l hl) sm_X2_changesOf k_X2_158 rfl ⟨Nat.le_of_ble_eq_true rfl, Nat.le_of_ble_eq_true rfl⟩ (Nat.zero_le _) ⟨Nat.le_of_ble_eq_true rfl, Nat.le_of_ble_eq_true rfl⟩ dX2_countedTimes_13 rfl ?_
    exact J_iret hC dX2_countedTimes_16 (by have h9 := Option.some.inj h; subst h9; rfl) (Nat.le_of_ble_eq_true rfl) (Nat.le_of_ble_eq_true rfl)
  · have h := ite_t c1 h
    refine J_aload_n (j := 0) hC dX2_countedTimes_4 rfl ?_
    refine bnd_c h (fun w2 hw h => ?_)
    refine J_callS (As := [rf a0]) (M' := M) (rv := some (Value.int w2)) (st := []) hC (fun l hl => cX2_zerosBelow_ok M a0 _ hw l hl) sm_X2_zerosBelow k_X2_259 rfl ⟨Nat.le_of_ble_eq_true rfl, Nat.le_of_ble_eq_true rfl⟩ (Nat.zero_le _) ⟨Nat.le_of_ble_eq_true rfl, Nat.le_of_ble_eq_true rfl⟩ dX2_countedTimes_5 rfl ?_
    refine J_goto (tgt := 16) hC dX2_countedTimes_8 (by decide) ?_
    exact J_iret hC dX2_countedTimes_16 (by have h9 := Option.some.inj h; subst h9; rfl) (Nat.le_of_ble_eq_true rfl) (Nat.le_of_ble_eq_true rfl)
abbrev rm_X2_times : Room := { frames := 17, cells := 3, slots := 18, locals := 463 }

set_option maxHeartbeats 4000000 in
set_option maxRecDepth 100000 in
theorem cX2_times_ok (M : Mem) (a0 : Option Nat) (a1 : Int32) (a2 : Int32) (a3 : Int32) (r0 : Mem × (String ⊕ Int32)) (h : fX2_times M a0 a1 a2 a3 = some r0) : ∀ l : Launch, l.stackTraces = false → Con true l yX2_times cX2_times 5 (some .int) rm_X2_times [rf a0, .int a1, .int a2, .int a3] M (r0.1, mapR (fun v => some (Value.int v)) r0.2) := by
  intro l hst
  refine Con.enterX hst (own := RX2) (by decide +kernel) rfl (by exact Nat.le_of_ble_eq_true rfl) (lv0 := [(0, rf a0), (1, .int a1), (2, .int a2), (3, .int a3)]) (rfl) (fun C hC => ?_)
  unfold fX2_times at h
  refine J_iload_n (j := 1) hC dX2_times_0 rfl ?_
  refine bnd_c h (fun w1 hw h => ?_)
  refine thrE_c h (fun E hE h => ?_) (fun v2 hv h => ?_)
  · exact J_thrS (E := E) (As := [.int a1]) (M' := M) (st := []) hC (fun l hl => by have h9 := cX2_checkNumber_ok M a1 _ hw l hl; rw [hE] at h9; exact h9) sm_X2_checkNumber k_X2_56 rfl ⟨Nat.le_of_ble_eq_true rfl, Nat.le_of_ble_eq_true rfl⟩ (Nat.zero_le _) ⟨Nat.le_of_ble_eq_true rfl, Nat.le_of_ble_eq_true rfl⟩ dX2_times_1 rfl (by have h9 := Option.some.inj h; subst h9; rfl)
  · refine J_callSX (As := [.int a1]) (M' := M) (rv := none) (st := []) hC (fun l hl => by have h9 := cX2_checkNumber_ok M a1 _ hw l hl; rw [hv] at h9; exact h9) sm_X2_checkNumber k_X2_56 rfl ⟨Nat.le_of_ble_eq_true rfl, Nat.le_of_ble_eq_true rfl⟩ (Nat.zero_le _) ⟨Nat.le_of_ble_eq_true rfl, Nat.le_of_ble_eq_true rfl⟩ dX2_times_1 rfl ?_
    refine J_iload_n (j := 2) hC dX2_times_4 rfl ?_
    refine bnd_c h (fun w3 hw h => ?_)
    refine thrE_c h (fun E hE h => ?_) (fun v4 hv h => ?_)
    · exact J_thrS (E := E) (As := [.int a2]) (M' := M) (st := []) hC (fun l hl => by have h9 := cX2_checkSign_ok M a2 _ hw l hl; rw [hE] at h9; exact h9) sm_X2_checkSign k_X2_63 rfl ⟨Nat.le_of_ble_eq_true rfl, Nat.le_of_ble_eq_true rfl⟩ (Nat.zero_le _) ⟨Nat.le_of_ble_eq_true rfl, Nat.le_of_ble_eq_true rfl⟩ dX2_times_5 rfl (by have h9 := Option.some.inj h; subst h9; rfl)
    · refine J_callSX (As := [.int a2]) (M' := M) (rv := none) (st := []) hC (fun l hl => by have h9 := cX2_checkSign_ok M a2 _ hw l hl; rw [hv] at h9; exact h9) sm_X2_checkSign k_X2_63 rfl ⟨Nat.le_of_ble_eq_true rfl, Nat.le_of_ble_eq_true rfl⟩ (Nat.zero_le _) ⟨Nat.le_of_ble_eq_true rfl, Nat.le_of_ble_eq_true rfl⟩ dX2_times_5 rfl ?_
      refine J_iload_n (j := 3) hC dX2_times_8 rfl ?_
      refine J_iconst (v := 2) hC dX2_times_9 (by decide) ?_
      refine bnd_c h (fun w5 hw h => ?_)
      refine thrE_c h (fun E hE h => ?_) (fun v6 hv h => ?_)
      · exact J_thrS (E := E) (As := [.int a3, .int 2]) (M' := M) (st := []) hC (fun l hl => by have h9 := cX2_checkWhat_ok M a3 2 _ hw l hl; rw [hE] at h9; exact h9) sm_X2_checkWhat k_X2_151 rfl ⟨Nat.le_of_ble_eq_true rfl, Nat.le_of_ble_eq_true rfl⟩ (Nat.zero_le _) ⟨Nat.le_of_ble_eq_true rfl, Nat.le_of_ble_eq_true rfl⟩ dX2_times_10 rfl (by have h9 := Option.some.inj h; subst h9; rfl)
      · refine J_callSX (As := [.int a3, .int 2]) (M' := M) (rv := none) (st := []) hC (fun l hl => by have h9 := cX2_checkWhat_ok M a3 2 _ hw l hl; rw [hv] at h9; exact h9) sm_X2_checkWhat k_X2_151 rfl ⟨Nat.le_of_ble_eq_true rfl, Nat.le_of_ble_eq_true rfl⟩ (Nat.zero_le _) ⟨Nat.le_of_ble_eq_true rfl, Nat.le_of_ble_eq_true rfl⟩ dX2_times_10 rfl ?_
        refine J_aload_n (j := 0) hC dX2_times_13 rfl ?_
        refine J_g2_0 hC k_X2_12 dX2_times_14 h (fun v7 _ h => ?_)
        refine J_g1_0 hC k_X2_69 dX2_times_17 h (fun v8 _ h => ?_)
        refine J_iload_n (j := 1) hC dX2_times_20 rfl ?_
        refine J_aald9 hC dX2_times_21 h (fun v9 _ h => ?_)
        refine J_astore (lv' := [(4, rf v9), (0, rf a0), (1, .int a1), (2, .int a2), (3, .int a3)]) hC dX2_times_22 (by decide) rfl ?_
        refine J_iload_n (j := 4) hC dX2_times_24 rfl ?_
        refine J_if_ne (tgt := 46) hC dX2_times_25 (by decide) (fun c10 => ?_) (fun c10 => ?_)
        · have h := ite_f c10 h
          refine J_aload (j := 0) hC dX2_times_46 rfl ?_
          refine J_iload_n (j := 3) hC dX2_times_48 rfl ?_
          refine bnd_c h (fun w14 hw h => ?_)
          refine J_callS (As := [rf v9, .int a2]) (M' := M) (rv := some (Value.int w14)) (st := []) hC (fun l hl => cX2_countedTimes_ok M v9 a2 _ hw l hl) sm_X2_countedTimes k_X2_168 rfl ⟨Nat.le_of_ble_eq_true rfl, Nat.le_of_ble_eq_true rfl⟩ (Nat.zero_le _) ⟨Nat.le_of_ble_eq_true rfl, Nat.le_of_ble_eq_true rfl⟩ dX2_times_49 rfl ?_
          exact J_iret hC dX2_times_52 (by have h9 := Option.some.inj h; subst h9; rfl) (Nat.le_of_ble_eq_true rfl) (Nat.le_of_ble_eq_true rfl)
        · have h := ite_t c10 h
          refine J_aload (j := 0) hC dX2_times_28 rfl ?_
          refine J_iload_n (j := 3) hC dX2_times_30 rfl ?_
          refine J_aload_n (j := 1) hC dX2_times_31 rfl ?_
          refine J_g2_8 hC k_X2_44 dX2_times_32 h (fun v11 _ h => ?_)
          refine J_aload_n (j := 1) hC dX2_times_35 rfl ?_
          refine J_g2_9 hC k_X2_51 dX2_times_36 h (fun v12 _ h => ?_)
          refine J_iconst (v := 0) hC dX2_times_39 (by decide) ?_
          refine bnd_c h (fun w13 hw h => ?_)
          refine J_callS (As := [rf v9, .int a2, rf v11, rf v12, .int 0]) (M' := w13.1) (rv := some (Value.int w13.2)) (st := []) hC (fun l hl => cX2_tryQuotients_ok M v9 a2 v11 v12 0 _ hw l hl) sm_X2_tryQuotients k_X2_90 rfl ⟨Nat.le_of_ble_eq_true rfl, Nat.le_of_ble_eq_true rfl⟩ (Nat.zero_le _) ⟨Nat.le_of_ble_eq_true rfl, Nat.le_of_ble_eq_true rfl⟩ dX2_times_40 rfl ?_
          refine J_goto (tgt := 52) hC dX2_times_43 (by decide) ?_
          exact J_iret hC dX2_times_52 (by have h9 := Option.some.inj h; subst h9; rfl) (Nat.le_of_ble_eq_true rfl) (Nat.le_of_ble_eq_true rfl)
abbrev rm_X2_quotientsOf : Room := { frames := 4, cells := 0, slots := 0, locals := 86 }

set_option maxHeartbeats 4000000 in
set_option maxRecDepth 100000 in
theorem tX2_quotientsOf_19 {C : JC} {r0 : Mem × Int32} (x0 : Option Nat) (x1 : Option Nat) (x2 : Int32) (x3 : Option Nat) (hC : Ok C false cX2_quotientsOf 6 rm_X2_quotientsOf (some .int) RX2 (r0.1, Sum.inr (some (Value.int r0.2))))  (k43 : Mem → Int32 → Int32 → Option (Mem × Int32)) (hk43 : ∀ (M : Mem) (x4 : Int32) (x5 : Int32), k43 M x4 x5 = some r0 → J C 0 0 M 43 [(0, rf x0), (1, rf x1), (2, .int x2), (3, rf x3), (4, .int x4), (5, .int x5)] []) : ∀ (n : Nat) (M : Mem) (x4 : Int32) (x5 : Int32), fX2_quotientsOf_19 x0 x1 x2 x3 k43 n M x4 x5 = some r0 → J C 0 0 M 19 [(0, rf x0), (1, rf x1), (2, .int x2), (3, rf x3), (4, .int x4), (5, .int x5)] [] := by
  intro n
  induction n with
  | zero => intro M x4 x5 h; have h : none = some r0 := h; cases h
  | succ n ih =>
    intro M x4 x5 h
    rw [fX2_quotientsOf_19] at h
    refine J_iload (j := 5) hC dX2_quotientsOf_19 rfl ?_
    refine J_ldcw (v := 1000000) hC k_X2_266 dX2_quotientsOf_21 ?_
    refine J_icmp_ge (tgt := 43) hC dX2_quotientsOf_24 (by decide) (fun c4 => ?_) (fun c4 => ?_)
    · have h := ite_t c4 h
      refine J_sub [0, 1, 2, 3, 4, 5] rfl ?_
      exact hk43 M x4 x5 h
    · have h := ite_f c4 h
      refine J_aload_n (j := 3) hC dX2_quotientsOf_27 rfl ?_
      refine ck_c h (fun ho h => ?_)
      refine bnd_c h (fun w5 hw h => ?_)
      refine J_callV (As := []) (M' := w5.1) (rv := some (Value.int w5.2)) (st := []) hC (fun l hl => cX0_advance_ok M x3 _ hw l hl) vm_X0_advance k_X2_267 ho ⟨rfl, rfl⟩ rfl ⟨Nat.le_of_ble_eq_true rfl, Nat.le_of_ble_eq_true rfl⟩ (Nat.zero_le _) ⟨Nat.le_of_ble_eq_true rfl, Nat.le_of_ble_eq_true rfl⟩ dX2_quotientsOf_28 rfl ?_
      refine J_if_eq (tgt := 43) hC dX2_quotientsOf_31 (by decide) (fun c6 => ?_) (fun c6 => ?_)
      · have h := ite_t c6 h
        refine J_sub [0, 1, 2, 3, 4, 5] rfl ?_
        exact hk43 w5.1 x4 x5 h
      · have h := ite_f c6 h
        refine J_inc (j := 4) (k := 1) (lv' := [(4, .int (x4 + 1)), (0, rf x0), (1, rf x1), (2, .int x2), (3, rf x3), (5, .int x5)]) hC dX2_quotientsOf_34 (by decide) rfl (by decide) rfl ?_
        refine J_inc (j := 5) (k := 1) (lv' := [(5, .int (x5 + 1)), (4, .int (x4 + 1)), (0, rf x0), (1, rf x1), (2, .int x2), (3, rf x3)]) hC dX2_quotientsOf_37 (by decide) rfl (by decide) rfl ?_
        refine J_goto (tgt := 19) hC dX2_quotientsOf_40 (by decide) ?_
        refine J_sub [2, 3, 4, 5, 1, 0] rfl ?_
        exact ih w5.1 (x4 + 1) (x5 + 1) h
set_option maxHeartbeats 4000000 in
set_option maxRecDepth 100000 in
theorem cX2_quotientsOf_ok (M : Mem) (a0 : Option Nat) (a1 : Option Nat) (a2 : Int32) (r0 : Mem × Int32) (h : fX2_quotientsOf M a0 a1 a2 = some r0) : ∀ l : Launch, l.stackTraces = false → Con false l yX2_quotientsOf cX2_quotientsOf 6 (some .int) rm_X2_quotientsOf [rf a0, rf a1, .int a2] M (r0.1, Sum.inr (some (Value.int r0.2))) := by
  intro l hst
  refine Con.enter hst (own := RX2) (by decide +kernel) rfl (by exact Nat.le_of_ble_eq_true rfl) (lv0 := [(0, rf a0), (1, rf a1), (2, .int a2)]) (rfl) (fun C hC hin => ?_)
  unfold fX2_quotientsOf at h
  refine J_aload_n (j := 0) hC dX2_quotientsOf_0 rfl ?_
  refine J_g2_8 hC k_X2_44 dX2_quotientsOf_1 h (fun v1 _ h => ?_)
  refine J_iconst (v := 0) hC dX2_quotientsOf_4 (by decide) ?_
  refine J_aald7 hC dX2_quotientsOf_5 h (fun v2 _ h => ?_)
  refine J_astore_n (i := 3) (lv' := [(3, rf v2), (0, rf a0), (1, rf a1), (2, .int a2)]) rfl hC dX2_quotientsOf_6 (by decide) rfl ?_
  refine J_aload_n (j := 0) hC dX2_quotientsOf_7 rfl ?_
  refine J_aload_n (j := 2) hC dX2_quotientsOf_8 rfl ?_
  refine J_iload_n (j := 3) hC dX2_quotientsOf_9 rfl ?_
  refine ck_c h (fun ho h => ?_)
  refine bnd_c h (fun w3 hw h => ?_)
  refine J_callV (As := [rf a1, .int a2]) (M' := w3) (rv := none) (st := []) hC (fun l hl => cX0_start_ok M v2 a1 a2 _ hw l hl) vm_X0_start k_X2_262 ho ⟨rfl, rfl⟩ rfl ⟨Nat.le_of_ble_eq_true rfl, Nat.le_of_ble_eq_true rfl⟩ (Nat.zero_le _) ⟨Nat.le_of_ble_eq_true rfl, Nat.le_of_ble_eq_true rfl⟩ dX2_quotientsOf_10 rfl ?_
  refine J_iconst (v := 0) hC dX2_quotientsOf_13 (by decide) ?_
  refine J_istore (lv' := [(4, .int 0), (3, rf v2), (0, rf a0), (1, rf a1), (2, .int a2)]) hC dX2_quotientsOf_14 (by decide) rfl ?_
  refine J_iconst (v := 0) hC dX2_quotientsOf_16 (by decide) ?_
  refine J_istore (lv' := [(5, .int 0), (4, .int 0), (3, rf v2), (0, rf a0), (1, rf a1), (2, .int a2)]) hC dX2_quotientsOf_17 (by decide) rfl ?_
  refine J_sub [3, 4, 5, 2, 1, 0] rfl ?_
  refine tX2_quotientsOf_19 a0 a1 a2 v2 hC _ (fun M7 x8 x9 h => ?_) FU w3 0 0 h
  · refine J_iload (j := 4) hC dX2_quotientsOf_43 rfl ?_
    exact J_iret hC dX2_quotientsOf_45 (by have h9 := Option.some.inj h; subst h9; rfl) (Nat.le_of_ble_eq_true rfl) (Nat.le_of_ble_eq_true rfl)
abbrev rm_X2_quotients : Room := { frames := 7, cells := 2, slots := 12, locals := 111 }

set_option maxHeartbeats 4000000 in
set_option maxRecDepth 100000 in
theorem cX2_quotients_ok (M : Mem) (a0 : Option Nat) (a1 : Int32) (a2 : Int32) (r0 : Mem × (String ⊕ Int32)) (h : fX2_quotients M a0 a1 a2 = some r0) : ∀ l : Launch, l.stackTraces = false → Con true l yX2_quotients cX2_quotients 3 (some .int) rm_X2_quotients [rf a0, .int a1, .int a2] M (r0.1, mapR (fun v => some (Value.int v)) r0.2) := by
  intro l hst
  refine Con.enterX hst (own := RX2) (by decide +kernel) rfl (by exact Nat.le_of_ble_eq_true rfl) (lv0 := [(0, rf a0), (1, .int a1), (2, .int a2)]) (rfl) (fun C hC => ?_)
  unfold fX2_quotients at h
  refine J_iload_n (j := 1) hC dX2_quotients_0 rfl ?_
  refine bnd_c h (fun w1 hw h => ?_)
  refine thrE_c h (fun E hE h => ?_) (fun v2 hv h => ?_)
  · exact J_thrS (E := E) (As := [.int a1]) (M' := M) (st := []) hC (fun l hl => by have h9 := cX2_checkNumber_ok M a1 _ hw l hl; rw [hE] at h9; exact h9) sm_X2_checkNumber k_X2_56 rfl ⟨Nat.le_of_ble_eq_true rfl, Nat.le_of_ble_eq_true rfl⟩ (Nat.zero_le _) ⟨Nat.le_of_ble_eq_true rfl, Nat.le_of_ble_eq_true rfl⟩ dX2_quotients_1 rfl (by have h9 := Option.some.inj h; subst h9; rfl)
  · refine J_callSX (As := [.int a1]) (M' := M) (rv := none) (st := []) hC (fun l hl => by have h9 := cX2_checkNumber_ok M a1 _ hw l hl; rw [hv] at h9; exact h9) sm_X2_checkNumber k_X2_56 rfl ⟨Nat.le_of_ble_eq_true rfl, Nat.le_of_ble_eq_true rfl⟩ (Nat.zero_le _) ⟨Nat.le_of_ble_eq_true rfl, Nat.le_of_ble_eq_true rfl⟩ dX2_quotients_1 rfl ?_
    refine J_iload_n (j := 2) hC dX2_quotients_4 rfl ?_
    refine bnd_c h (fun w3 hw h => ?_)
    refine thrE_c h (fun E hE h => ?_) (fun v4 hv h => ?_)
    · exact J_thrS (E := E) (As := [.int a2]) (M' := M) (st := []) hC (fun l hl => by have h9 := cX2_checkSign_ok M a2 _ hw l hl; rw [hE] at h9; exact h9) sm_X2_checkSign k_X2_63 rfl ⟨Nat.le_of_ble_eq_true rfl, Nat.le_of_ble_eq_true rfl⟩ (Nat.zero_le _) ⟨Nat.le_of_ble_eq_true rfl, Nat.le_of_ble_eq_true rfl⟩ dX2_quotients_5 rfl (by have h9 := Option.some.inj h; subst h9; rfl)
    · refine J_callSX (As := [.int a2]) (M' := M) (rv := none) (st := []) hC (fun l hl => by have h9 := cX2_checkSign_ok M a2 _ hw l hl; rw [hv] at h9; exact h9) sm_X2_checkSign k_X2_63 rfl ⟨Nat.le_of_ble_eq_true rfl, Nat.le_of_ble_eq_true rfl⟩ (Nat.zero_le _) ⟨Nat.le_of_ble_eq_true rfl, Nat.le_of_ble_eq_true rfl⟩ dX2_quotients_5 rfl ?_
      refine J_aload_n (j := 0) hC dX2_quotients_8 rfl ?_
      refine J_aload_n (j := 0) hC dX2_quotients_9 rfl ?_
      refine J_g2_0 hC k_X2_12 dX2_quotients_10 h (fun v5 _ h => ?_)
      refine J_g1_0 hC k_X2_69 dX2_quotients_13 h (fun v6 _ h => ?_)
      refine J_iload_n (j := 1) hC dX2_quotients_16 rfl ?_
      refine J_aald9 hC dX2_quotients_17 h (fun v7 _ h => ?_)
      refine J_iload_n (j := 2) hC dX2_quotients_18 rfl ?_
      refine ck_c h (fun ho h => ?_)
      refine bnd_c h (fun w8 hw h => ?_)
      refine J_callV (As := [rf v7, .int a2]) (M' := w8.1) (rv := some (Value.int w8.2)) (st := []) hC (fun l hl => cX2_quotientsOf_ok M a0 v7 a2 _ hw l hl) vm_X2_quotientsOf k_X2_171 ho ⟨rfl, rfl⟩ rfl ⟨Nat.le_of_ble_eq_true rfl, Nat.le_of_ble_eq_true rfl⟩ (Nat.zero_le _) ⟨Nat.le_of_ble_eq_true rfl, Nat.le_of_ble_eq_true rfl⟩ dX2_quotients_19 rfl ?_
      exact J_iret hC dX2_quotients_22 (by have h9 := Option.some.inj h; subst h9; rfl) (Nat.le_of_ble_eq_true rfl) (Nat.le_of_ble_eq_true rfl)
abbrev rm_X2_bestForm : Room := { frames := 1, cells := 0, slots := 0, locals := 22 }

set_option maxHeartbeats 4000000 in
set_option maxRecDepth 100000 in
theorem cX2_bestForm_ok (M : Mem) (a0 : Option Nat) (a1 : Int32) (r0 : Int32) (h : fX2_bestForm M a0 a1 = some r0) : ∀ l : Launch, l.stackTraces = false → Con false l yX2_bestForm cX2_bestForm 2 (some .int) rm_X2_bestForm [rf a0, .int a1] M (M, Sum.inr (some (Value.int r0))) := by
  intro l hst
  refine Con.enter hst (own := RX2) (by decide +kernel) rfl (by exact Nat.le_of_ble_eq_true rfl) (lv0 := [(0, rf a0), (1, .int a1)]) (rfl) (fun C hC hin => ?_)
  unfold fX2_bestForm at h
  refine J_iload_n (j := 1) hC dX2_bestForm_0 rfl ?_
  refine J_if_ne (tgt := 9) hC dX2_bestForm_1 (by decide) (fun c1 => ?_) (fun c1 => ?_)
  · have h := ite_f c1 h
    refine J_aload_n (j := 0) hC dX2_bestForm_9 rfl ?_
    refine J_g2_8 hC k_X2_44 dX2_bestForm_10 h (fun v2 _ h => ?_)
    refine J_iconst (v := 0) hC dX2_bestForm_13 (by decide) ?_
    refine J_aald7 hC dX2_bestForm_14 h (fun v3 _ h => ?_)
    refine J_g0_2 hC k_X2_94 dX2_bestForm_15 h (fun v4 _ h => ?_)
    refine bnd_c h (fun w5 hw h => ?_)
    refine J_callS (As := [rf v4]) (M' := M) (rv := some (Value.int w5)) (st := []) hC (fun l hl => cX2_formOf_ok M v4 _ hw l hl) sm_X2_formOf k_X2_162 rfl ⟨Nat.le_of_ble_eq_true rfl, Nat.le_of_ble_eq_true rfl⟩ (Nat.zero_le _) ⟨Nat.le_of_ble_eq_true rfl, Nat.le_of_ble_eq_true rfl⟩ dX2_bestForm_18 rfl ?_
    exact J_iret hC dX2_bestForm_21 (by have h9 := Option.some.inj h; subst h9; rfl) (Nat.le_of_ble_eq_true rfl) (Nat.le_of_ble_eq_true rfl)
  · have h := ite_t c1 h
    refine J_bipush (v := (-9)) hC dX2_bestForm_4 (by decide) ?_
    refine J_goto (tgt := 21) hC dX2_bestForm_6 (by decide) ?_
    exact J_iret hC dX2_bestForm_21 (by have h9 := Option.some.inj h; subst h9; rfl) (Nat.le_of_ble_eq_true rfl) (Nat.le_of_ble_eq_true rfl)
abbrev rm_X2_best : Room := { frames := 17, cells := 2, slots := 12, locals := 463 }

set_option maxHeartbeats 4000000 in
set_option maxRecDepth 100000 in
theorem cX2_best_ok (M : Mem) (a0 : Option Nat) (a1 : Int32) (a2 : Int32) (r0 : Mem × (String ⊕ Int32)) (h : fX2_best M a0 a1 a2 = some r0) : ∀ l : Launch, l.stackTraces = false → Con true l yX2_best cX2_best 3 (some .int) rm_X2_best [rf a0, .int a1, .int a2] M (r0.1, mapR (fun v => some (Value.int v)) r0.2) := by
  intro l hst
  refine Con.enterX hst (own := RX2) (by decide +kernel) rfl (by exact Nat.le_of_ble_eq_true rfl) (lv0 := [(0, rf a0), (1, .int a1), (2, .int a2)]) (rfl) (fun C hC => ?_)
  unfold fX2_best at h
  refine J_iload_n (j := 1) hC dX2_best_0 rfl ?_
  refine bnd_c h (fun w1 hw h => ?_)
  refine thrE_c h (fun E hE h => ?_) (fun v2 hv h => ?_)
  · exact J_thrS (E := E) (As := [.int a1]) (M' := M) (st := []) hC (fun l hl => by have h9 := cX2_checkNumber_ok M a1 _ hw l hl; rw [hE] at h9; exact h9) sm_X2_checkNumber k_X2_56 rfl ⟨Nat.le_of_ble_eq_true rfl, Nat.le_of_ble_eq_true rfl⟩ (Nat.zero_le _) ⟨Nat.le_of_ble_eq_true rfl, Nat.le_of_ble_eq_true rfl⟩ dX2_best_1 rfl (by have h9 := Option.some.inj h; subst h9; rfl)
  · refine J_callSX (As := [.int a1]) (M' := M) (rv := none) (st := []) hC (fun l hl => by have h9 := cX2_checkNumber_ok M a1 _ hw l hl; rw [hv] at h9; exact h9) sm_X2_checkNumber k_X2_56 rfl ⟨Nat.le_of_ble_eq_true rfl, Nat.le_of_ble_eq_true rfl⟩ (Nat.zero_le _) ⟨Nat.le_of_ble_eq_true rfl, Nat.le_of_ble_eq_true rfl⟩ dX2_best_1 rfl ?_
    refine J_iload_n (j := 2) hC dX2_best_4 rfl ?_
    refine bnd_c h (fun w3 hw h => ?_)
    refine thrE_c h (fun E hE h => ?_) (fun v4 hv h => ?_)
    · exact J_thrS (E := E) (As := [.int a2]) (M' := M) (st := []) hC (fun l hl => by have h9 := cX2_checkSign_ok M a2 _ hw l hl; rw [hE] at h9; exact h9) sm_X2_checkSign k_X2_63 rfl ⟨Nat.le_of_ble_eq_true rfl, Nat.le_of_ble_eq_true rfl⟩ (Nat.zero_le _) ⟨Nat.le_of_ble_eq_true rfl, Nat.le_of_ble_eq_true rfl⟩ dX2_best_5 rfl (by have h9 := Option.some.inj h; subst h9; rfl)
    · refine J_callSX (As := [.int a2]) (M' := M) (rv := none) (st := []) hC (fun l hl => by have h9 := cX2_checkSign_ok M a2 _ hw l hl; rw [hv] at h9; exact h9) sm_X2_checkSign k_X2_63 rfl ⟨Nat.le_of_ble_eq_true rfl, Nat.le_of_ble_eq_true rfl⟩ (Nat.zero_le _) ⟨Nat.le_of_ble_eq_true rfl, Nat.le_of_ble_eq_true rfl⟩ dX2_best_5 rfl ?_
      refine J_aload_n (j := 0) hC dX2_best_8 rfl ?_
      refine J_aload_n (j := 0) hC dX2_best_9 rfl ?_
      refine J_g2_0 hC k_X2_12 dX2_best_10 h (fun v5 _ h => ?_)
      refine J_g1_0 hC k_X2_69 dX2_best_13 h (fun v6 _ h => ?_)
      refine J_iload_n (j := 1) hC dX2_best_16 rfl ?_
      refine J_aald9 hC dX2_best_17 h (fun v7 _ h => ?_)
      refine J_iload_n (j := 2) hC dX2_best_18 rfl ?_
      refine J_aload_n (j := 0) hC dX2_best_19 rfl ?_
      refine J_g2_8 hC k_X2_44 dX2_best_20 h (fun v8 _ h => ?_)
      refine J_aload_n (j := 0) hC dX2_best_23 rfl ?_
      refine J_g2_9 hC k_X2_51 dX2_best_24 h (fun v9 _ h => ?_)
      refine J_iconst (v := 0) hC dX2_best_27 (by decide) ?_
      refine bnd_c h (fun w10 hw h => ?_)
      refine J_callS (As := [rf v7, .int a2, rf v8, rf v9, .int 0]) (M' := w10.1) (rv := some (Value.int w10.2)) (st := [rf a0]) hC (fun l hl => cX2_tryQuotients_ok M v7 a2 v8 v9 0 _ hw l hl) sm_X2_tryQuotients k_X2_90 rfl ⟨Nat.le_of_ble_eq_true rfl, Nat.le_of_ble_eq_true rfl⟩ (Nat.le_of_ble_eq_true rfl) ⟨Nat.le_of_ble_eq_true rfl, Nat.le_of_ble_eq_true rfl⟩ dX2_best_28 rfl ?_
      refine ck_c h (fun ho h => ?_)
      refine bnd_c h (fun w11 hw h => ?_)
      refine J_callV (As := [.int w10.2]) (M' := w10.1) (rv := some (Value.int w11)) (st := []) hC (fun l hl => cX2_bestForm_ok w10.1 a0 w10.2 _ hw l hl) vm_X2_bestForm k_X2_174 ho ⟨rfl, rfl⟩ rfl ⟨Nat.le_of_ble_eq_true rfl, Nat.le_of_ble_eq_true rfl⟩ (Nat.zero_le _) ⟨Nat.le_of_ble_eq_true rfl, Nat.le_of_ble_eq_true rfl⟩ dX2_best_31 rfl ?_
      exact J_iret hC dX2_best_34 (by have h9 := Option.some.inj h; subst h9; rfl) (Nat.le_of_ble_eq_true rfl) (Nat.le_of_ble_eq_true rfl)
abbrev rm_X2_isTooHigh : Room := { frames := 1, cells := 0, slots := 0, locals := 21 }

set_option maxHeartbeats 4000000 in
set_option maxRecDepth 100000 in
theorem cX2_isTooHigh_ok (M : Mem) (a0 : Option Nat) (a1 : Option Nat) (a2 : Int32) (r0 : Int32) (h : fX2_isTooHigh M a0 a1 a2 = some r0) : ∀ l : Launch, l.stackTraces = false → Con false l yX2_isTooHigh cX2_isTooHigh 3 (some .boolean) rm_X2_isTooHigh [rf a0, rf a1, .int a2] M (M, Sum.inr (some (Value.int r0))) := by
  intro l hst
  refine Con.enter hst (own := RX2) (by decide +kernel) rfl (by exact Nat.le_of_ble_eq_true rfl) (lv0 := [(0, rf a0), (1, rf a1), (2, .int a2)]) (rfl) (fun C hC hin => ?_)
  unfold fX2_isTooHigh at h
  refine J_iload_n (j := 2) hC dX2_isTooHigh_0 rfl ?_
  refine J_iconst (v := 1) hC dX2_isTooHigh_1 (by decide) ?_
  refine J_icmp_ne (tgt := 23) hC dX2_isTooHigh_2 (by decide) (fun c1 => ?_) (fun c1 => ?_)
  · have h := ite_f c1 h
    refine J_iconst (v := 0) hC dX2_isTooHigh_23 (by decide) ?_
    exact J_zret hC dX2_isTooHigh_24 (by decide) (by have h9 := Option.some.inj h; subst h9; rfl) (Nat.le_of_ble_eq_true rfl) (Nat.le_of_ble_eq_true rfl)
  · have h := ite_t c1 h
    refine J_aload_n (j := 0) hC dX2_isTooHigh_5 rfl ?_
    refine bnd_c h (fun w2 hw h => ?_)
    refine J_callS (As := [rf a0]) (M' := M) (rv := some (Value.int w2)) (st := []) hC (fun l hl => cX2_degreeOf_ok M a0 _ hw l hl) sm_X2_degreeOf k_X2_80 rfl ⟨Nat.le_of_ble_eq_true rfl, Nat.le_of_ble_eq_true rfl⟩ (Nat.zero_le _) ⟨Nat.le_of_ble_eq_true rfl, Nat.le_of_ble_eq_true rfl⟩ dX2_isTooHigh_6 rfl ?_
    refine J_aload_n (j := 1) hC dX2_isTooHigh_9 rfl ?_
    refine bnd_c h (fun w3 hw h => ?_)
    refine J_callS (As := [rf a1]) (M' := M) (rv := some (Value.int w3)) (st := [.int w2]) hC (fun l hl => cX2_degreeOf_ok M a1 _ hw l hl) sm_X2_degreeOf k_X2_80 rfl ⟨Nat.le_of_ble_eq_true rfl, Nat.le_of_ble_eq_true rfl⟩ (Nat.le_of_ble_eq_true rfl) ⟨Nat.le_of_ble_eq_true rfl, Nat.le_of_ble_eq_true rfl⟩ dX2_isTooHigh_10 rfl ?_
    refine J_iadd hC dX2_isTooHigh_13 ?_
    refine J_bipush (v := 8) hC dX2_isTooHigh_14 (by decide) ?_
    have hj : ∀ (z4 : Int32), z4 = (if (w2 + w3) ≤ 8 then 0 else 1) → J C 0 0 M 24 [(0, rf a0), (1, rf a1), (2, .int a2)] [.int z4] := by
      intro z4 ez4
      subst ez4
      exact J_zret hC dX2_isTooHigh_24 (by (repeat' split) <;> decide) (by have h9 := Option.some.inj h; subst h9; rfl) (Nat.le_of_ble_eq_true rfl) (Nat.le_of_ble_eq_true rfl)
    refine J_icmp_le (tgt := 23) hC dX2_isTooHigh_16 (by decide) (fun c5 => ?_) (fun c5 => ?_)
    · refine J_iconst (v := 0) hC dX2_isTooHigh_23 (by decide) ?_
      refine J_sub [0, 1, 2] rfl ?_
      exact hj _ (if_pos c5).symm
    · refine J_iconst (v := 1) hC dX2_isTooHigh_19 (by decide) ?_
      refine J_goto (tgt := 24) hC dX2_isTooHigh_20 (by decide) ?_
      refine J_sub [0, 1, 2] rfl ?_
      exact hj _ (if_neg c5).symm
abbrev rm_X2_sumMarks : Room := { frames := 1, cells := 0, slots := 0, locals := 20 }

set_option maxHeartbeats 4000000 in
set_option maxRecDepth 100000 in
theorem cX2_sumMarks_ok (M : Mem) (a0 : Option Nat) (a1 : Option Nat) (a2 : Int32) (r0 : Int32) (h : fX2_sumMarks M a0 a1 a2 = some r0) : ∀ l : Launch, l.stackTraces = false → Con false l yX2_sumMarks cX2_sumMarks 3 (some .int) rm_X2_sumMarks [rf a0, rf a1, .int a2] M (M, Sum.inr (some (Value.int r0))) := by
  intro l hst
  refine Con.enter hst (own := RX2) (by decide +kernel) rfl (by exact Nat.le_of_ble_eq_true rfl) (lv0 := [(0, rf a0), (1, rf a1), (2, .int a2)]) (rfl) (fun C hC hin => ?_)
  unfold fX2_sumMarks at h
  refine J_aload_n (j := 0) hC dX2_sumMarks_0 rfl ?_
  refine J_iload_n (j := 2) hC dX2_sumMarks_1 rfl ?_
  refine J_iald hC dX2_sumMarks_2 h (fun v1 _ h => ?_)
  refine bnd_c h (fun w2 hw h => ?_)
  refine J_callS (As := [.int v1]) (M' := M) (rv := some (Value.int w2)) (st := []) hC (fun l hl => cX2_markOf_ok M v1 _ hw l hl) sm_X2_markOf k_X2_234 rfl ⟨Nat.le_of_ble_eq_true rfl, Nat.le_of_ble_eq_true rfl⟩ (Nat.zero_le _) ⟨Nat.le_of_ble_eq_true rfl, Nat.le_of_ble_eq_true rfl⟩ dX2_sumMarks_3 rfl ?_
  refine J_aload_n (j := 1) hC dX2_sumMarks_6 rfl ?_
  refine J_iload_n (j := 2) hC dX2_sumMarks_7 rfl ?_
  refine J_iald hC dX2_sumMarks_8 h (fun v3 _ h => ?_)
  refine bnd_c h (fun w4 hw h => ?_)
  refine J_callS (As := [.int v3]) (M' := M) (rv := some (Value.int w4)) (st := [.int w2]) hC (fun l hl => cX2_markOf_ok M v3 _ hw l hl) sm_X2_markOf k_X2_234 rfl ⟨Nat.le_of_ble_eq_true rfl, Nat.le_of_ble_eq_true rfl⟩ (Nat.le_of_ble_eq_true rfl) ⟨Nat.le_of_ble_eq_true rfl, Nat.le_of_ble_eq_true rfl⟩ dX2_sumMarks_9 rfl ?_
  refine J_ior hC dX2_sumMarks_12 ?_
  exact J_iret hC dX2_sumMarks_13 (by have h9 := Option.some.inj h; subst h9; rfl) (Nat.le_of_ble_eq_true rfl) (Nat.le_of_ble_eq_true rfl)
abbrev rm_X2_productMarks : Room := { frames := 1, cells := 0, slots := 0, locals := 20 }

set_option maxHeartbeats 4000000 in
set_option maxRecDepth 100000 in
theorem tX2_productMarks_5 {C : JC} {r0 : Int32} (M : Mem) (x0 : Option Nat) (x1 : Option Nat) (x2 : Int32) (hC : Ok C false cX2_productMarks 5 rm_X2_productMarks (some .int) RX2 (M, Sum.inr (some (Value.int r0))))  (k34 : Int32 → Int32 → Option (Int32)) (hk34 : ∀ (x3 : Int32) (x4 : Int32), k34 x3 x4 = some r0 → J C 0 0 M 34 [(0, rf x0), (1, rf x1), (2, .int x2), (3, .int x3), (4, .int x4)] []) : ∀ (n : Nat) (x3 : Int32) (x4 : Int32), fX2_productMarks_5 M x0 x1 x2 k34 n x3 x4 = some r0 → J C 0 0 M 5 [(0, rf x0), (1, rf x1), (2, .int x2), (3, .int x3), (4, .int x4)] [] := by
  intro n
  induction n with
  | zero => intro x3 x4 h; have h : none = some r0 := h; cases h
  | succ n ih =>
    intro x3 x4 h
    rw [fX2_productMarks_5] at h
    refine J_iload (j := 4) hC dX2_productMarks_5 rfl ?_
    refine J_iload_n (j := 2) hC dX2_productMarks_7 rfl ?_
    refine J_icmp_gt (tgt := 34) hC dX2_productMarks_8 (by decide) (fun c1 => ?_) (fun c1 => ?_)
    · have h := ite_t c1 h
      refine J_sub [0, 1, 2, 3, 4] rfl ?_
      exact hk34 x3 x4 h
    · have h := ite_f c1 h
      refine J_iload_n (j := 3) hC dX2_productMarks_11 rfl ?_
      refine J_aload_n (j := 0) hC dX2_productMarks_12 rfl ?_
      refine J_iload (j := 4) hC dX2_productMarks_13 rfl ?_
      refine J_iald hC dX2_productMarks_15 h (fun v2 _ h => ?_)
      refine J_aload_n (j := 1) hC dX2_productMarks_16 rfl ?_
      refine J_iload_n (j := 2) hC dX2_productMarks_17 rfl ?_
      refine J_iload (j := 4) hC dX2_productMarks_18 rfl ?_
      refine J_isub hC dX2_productMarks_20 ?_
      refine J_iald hC dX2_productMarks_21 h (fun v3 _ h => ?_)
      refine J_imul hC dX2_productMarks_22 ?_
      refine bnd_c h (fun w4 hw h => ?_)
      refine J_callS (As := [.int (v2 * v3)]) (M' := M) (rv := some (Value.int w4)) (st := [.int x3]) hC (fun l hl => cX2_markOf_ok M (v2 * v3) _ hw l hl) sm_X2_markOf k_X2_234 rfl ⟨Nat.le_of_ble_eq_true rfl, Nat.le_of_ble_eq_true rfl⟩ (Nat.le_of_ble_eq_true rfl) ⟨Nat.le_of_ble_eq_true rfl, Nat.le_of_ble_eq_true rfl⟩ dX2_productMarks_23 rfl ?_
      refine J_ior hC dX2_productMarks_26 ?_
      refine J_istore_n (i := 3) (lv' := [(3, .int (x3 ||| w4)), (0, rf x0), (1, rf x1), (2, .int x2), (4, .int x4)]) rfl hC dX2_productMarks_27 (by decide) rfl ?_
      refine J_inc (j := 4) (k := 1) (lv' := [(4, .int (x4 + 1)), (3, .int (x3 ||| w4)), (0, rf x0), (1, rf x1), (2, .int x2)]) hC dX2_productMarks_28 (by decide) rfl (by decide) rfl ?_
      refine J_goto (tgt := 5) hC dX2_productMarks_31 (by decide) ?_
      refine J_sub [2, 3, 4, 1, 0] rfl ?_
      exact ih (x3 ||| w4) (x4 + 1) h
set_option maxHeartbeats 4000000 in
set_option maxRecDepth 100000 in
theorem cX2_productMarks_ok (M : Mem) (a0 : Option Nat) (a1 : Option Nat) (a2 : Int32) (r0 : Int32) (h : fX2_productMarks M a0 a1 a2 = some r0) : ∀ l : Launch, l.stackTraces = false → Con false l yX2_productMarks cX2_productMarks 5 (some .int) rm_X2_productMarks [rf a0, rf a1, .int a2] M (M, Sum.inr (some (Value.int r0))) := by
  intro l hst
  refine Con.enter hst (own := RX2) (by decide +kernel) rfl (by exact Nat.le_of_ble_eq_true rfl) (lv0 := [(0, rf a0), (1, rf a1), (2, .int a2)]) (rfl) (fun C hC hin => ?_)
  unfold fX2_productMarks at h
  refine J_iconst (v := 0) hC dX2_productMarks_0 (by decide) ?_
  refine J_istore_n (i := 3) (lv' := [(3, .int 0), (0, rf a0), (1, rf a1), (2, .int a2)]) rfl hC dX2_productMarks_1 (by decide) rfl ?_
  refine J_iconst (v := 0) hC dX2_productMarks_2 (by decide) ?_
  refine J_istore (lv' := [(4, .int 0), (3, .int 0), (0, rf a0), (1, rf a1), (2, .int a2)]) hC dX2_productMarks_3 (by decide) rfl ?_
  refine J_sub [2, 3, 4, 1, 0] rfl ?_
  refine tX2_productMarks_5 M a0 a1 a2 hC _ (fun x5 x6 h => ?_) FU 0 0 h
  · refine J_iload_n (j := 3) hC dX2_productMarks_34 rfl ?_
    exact J_iret hC dX2_productMarks_35 (by have h9 := Option.some.inj h; subst h9; rfl) (Nat.le_of_ble_eq_true rfl) (Nat.le_of_ble_eq_true rfl)
abbrev rm_X2_marksAt : Room := { frames := 2, cells := 0, slots := 0, locals := 44 }

set_option maxHeartbeats 4000000 in
set_option maxRecDepth 100000 in
theorem cX2_marksAt_ok (M : Mem) (a0 : Option Nat) (a1 : Option Nat) (a2 : Int32) (a3 : Int32) (r0 : Int32) (h : fX2_marksAt M a0 a1 a2 a3 = some r0) : ∀ l : Launch, l.stackTraces = false → Con false l yX2_marksAt cX2_marksAt 4 (some .int) rm_X2_marksAt [rf a0, rf a1, .int a2, .int a3] M (M, Sum.inr (some (Value.int r0))) := by
  intro l hst
  refine Con.enter hst (own := RX2) (by decide +kernel) rfl (by exact Nat.le_of_ble_eq_true rfl) (lv0 := [(0, rf a0), (1, rf a1), (2, .int a2), (3, .int a3)]) (rfl) (fun C hC hin => ?_)
  unfold fX2_marksAt at h
  refine J_iload_n (j := 2) hC dX2_marksAt_0 rfl ?_
  refine J_if_ne (tgt := 13) hC dX2_marksAt_1 (by decide) (fun c1 => ?_) (fun c1 => ?_)
  · have h := ite_f c1 h
    refine J_aload_n (j := 0) hC dX2_marksAt_13 rfl ?_
    refine J_aload_n (j := 1) hC dX2_marksAt_14 rfl ?_
    refine J_iload_n (j := 3) hC dX2_marksAt_15 rfl ?_
    refine bnd_c h (fun w3 hw h => ?_)
    refine J_callS (As := [rf a0, rf a1, .int a3]) (M' := M) (rv := some (Value.int w3)) (st := []) hC (fun l hl => cX2_productMarks_ok M a0 a1 a3 _ hw l hl) sm_X2_productMarks k_X2_240 rfl ⟨Nat.le_of_ble_eq_true rfl, Nat.le_of_ble_eq_true rfl⟩ (Nat.zero_le _) ⟨Nat.le_of_ble_eq_true rfl, Nat.le_of_ble_eq_true rfl⟩ dX2_marksAt_16 rfl ?_
    exact J_iret hC dX2_marksAt_19 (by have h9 := Option.some.inj h; subst h9; rfl) (Nat.le_of_ble_eq_true rfl) (Nat.le_of_ble_eq_true rfl)
  · have h := ite_t c1 h
    refine J_aload_n (j := 0) hC dX2_marksAt_4 rfl ?_
    refine J_aload_n (j := 1) hC dX2_marksAt_5 rfl ?_
    refine J_iload_n (j := 3) hC dX2_marksAt_6 rfl ?_
    refine bnd_c h (fun w2 hw h => ?_)
    refine J_callS (As := [rf a0, rf a1, .int a3]) (M' := M) (rv := some (Value.int w2)) (st := []) hC (fun l hl => cX2_sumMarks_ok M a0 a1 a3 _ hw l hl) sm_X2_sumMarks k_X2_237 rfl ⟨Nat.le_of_ble_eq_true rfl, Nat.le_of_ble_eq_true rfl⟩ (Nat.zero_le _) ⟨Nat.le_of_ble_eq_true rfl, Nat.le_of_ble_eq_true rfl⟩ dX2_marksAt_7 rfl ?_
    refine J_goto (tgt := 19) hC dX2_marksAt_10 (by decide) ?_
    exact J_iret hC dX2_marksAt_19 (by have h9 := Option.some.inj h; subst h9; rfl) (Nat.le_of_ble_eq_true rfl) (Nat.le_of_ble_eq_true rfl)
abbrev rm_X2_rowsOf : Room := { frames := 3, cells := 0, slots := 0, locals := 67 }

set_option maxHeartbeats 4000000 in
set_option maxRecDepth 100000 in
theorem tX2_rowsOf_17 {C : JC} {r0 : Int32} (M : Mem) (x0 : Option Nat) (x1 : Option Nat) (x2 : Int32) (hC : Ok C false cX2_rowsOf 5 rm_X2_rowsOf (some .int) RX2 (M, Sum.inr (some (Value.int r0))))  (k46 : Int32 → Int32 → Option (Int32)) (hk46 : ∀ (x3 : Int32) (x4 : Int32), k46 x3 x4 = some r0 → J C 0 0 M 46 [(0, rf x0), (1, rf x1), (2, .int x2), (3, .int x3), (4, .int x4)] []) : ∀ (n : Nat) (x3 : Int32) (x4 : Int32), fX2_rowsOf_17 M x0 x1 x2 k46 n x3 x4 = some r0 → J C 0 0 M 17 [(0, rf x0), (1, rf x1), (2, .int x2), (3, .int x3), (4, .int x4)] [] := by
  intro n
  induction n with
  | zero => intro x3 x4 h; have h : none = some r0 := h; cases h
  | succ n ih =>
    intro x3 x4 h
    rw [fX2_rowsOf_17] at h
    refine J_iload (j := 4) hC dX2_rowsOf_17 rfl ?_
    refine J_bipush (v := 9) hC dX2_rowsOf_19 (by decide) ?_
    refine J_icmp_ge (tgt := 46) hC dX2_rowsOf_21 (by decide) (fun c3 => ?_) (fun c3 => ?_)
    · have h := ite_t c3 h
      refine J_sub [0, 1, 2, 3, 4] rfl ?_
      exact hk46 x3 x4 h
    · have h := ite_f c3 h
      refine J_aload_n (j := 0) hC dX2_rowsOf_24 rfl ?_
      refine J_aload_n (j := 1) hC dX2_rowsOf_25 rfl ?_
      refine J_iload_n (j := 2) hC dX2_rowsOf_26 rfl ?_
      refine J_iload (j := 4) hC dX2_rowsOf_27 rfl ?_
      refine bnd_c h (fun w4 hw h => ?_)
      refine J_callS (As := [rf x0, rf x1, .int x2, .int x4]) (M' := M) (rv := some (Value.int w4)) (st := []) hC (fun l hl => cX2_marksAt_ok M x0 x1 x2 x4 _ hw l hl) sm_X2_marksAt k_X2_247 rfl ⟨Nat.le_of_ble_eq_true rfl, Nat.le_of_ble_eq_true rfl⟩ (Nat.zero_le _) ⟨Nat.le_of_ble_eq_true rfl, Nat.le_of_ble_eq_true rfl⟩ dX2_rowsOf_29 rfl ?_
      refine J_iconst (v := 3) hC dX2_rowsOf_32 (by decide) ?_
      have hj : ∀ (z5 : Int32), z5 = (if w4 = 3 then x3 * 3 else x3) → J C 0 0 M 40 [(0, rf x0), (1, rf x1), (2, .int x2), (3, .int z5), (4, .int x4)] [] := by
        intro z5 ez5
        subst ez5
        refine J_inc (j := 4) (k := 1) (lv' := [(4, .int (x4 + 1)), (0, rf x0), (1, rf x1), (2, .int x2), (3, .int (if w4 = 3 then x3 * 3 else x3))]) hC dX2_rowsOf_40 (by decide) rfl (by decide) rfl ?_
        refine J_goto (tgt := 17) hC dX2_rowsOf_43 (by decide) ?_
        refine J_sub [1, 2, 3, 4, 0] rfl ?_
        exact ih (if w4 = 3 then x3 * 3 else x3) (x4 + 1) h
      refine J_icmp_ne (tgt := 40) hC dX2_rowsOf_33 (by decide) (fun c6 => ?_) (fun c6 => ?_)
      · refine J_sub [0, 1, 2, 3, 4] rfl ?_
        exact hj _ (if_neg c6).symm
      · refine J_iload_n (j := 3) hC dX2_rowsOf_36 rfl ?_
        refine J_iconst (v := 3) hC dX2_rowsOf_37 (by decide) ?_
        refine J_imul hC dX2_rowsOf_38 ?_
        refine J_istore_n (i := 3) (lv' := [(3, .int (x3 * 3)), (0, rf x0), (1, rf x1), (2, .int x2), (4, .int x4)]) rfl hC dX2_rowsOf_39 (by decide) rfl ?_
        refine J_sub [1, 2, 3, 0, 4] rfl ?_
        exact hj _ (if_pos c6).symm
set_option maxHeartbeats 4000000 in
set_option maxRecDepth 100000 in
theorem cX2_rowsOf_ok (M : Mem) (a0 : Option Nat) (a1 : Option Nat) (a2 : Int32) (r0 : Int32) (h : fX2_rowsOf M a0 a1 a2 = some r0) : ∀ l : Launch, l.stackTraces = false → Con false l yX2_rowsOf cX2_rowsOf 5 (some .int) rm_X2_rowsOf [rf a0, rf a1, .int a2] M (M, Sum.inr (some (Value.int r0))) := by
  intro l hst
  refine Con.enter hst (own := RX2) (by decide +kernel) rfl (by exact Nat.le_of_ble_eq_true rfl) (lv0 := [(0, rf a0), (1, rf a1), (2, .int a2)]) (rfl) (fun C hC hin => ?_)
  unfold fX2_rowsOf at h
  refine J_aload_n (j := 0) hC dX2_rowsOf_0 rfl ?_
  refine J_aload_n (j := 1) hC dX2_rowsOf_1 rfl ?_
  refine J_iload_n (j := 2) hC dX2_rowsOf_2 rfl ?_
  refine bnd_c h (fun w1 hw h => ?_)
  refine J_callS (As := [rf a0, rf a1, .int a2]) (M' := M) (rv := some (Value.int w1)) (st := []) hC (fun l hl => cX2_isTooHigh_ok M a0 a1 a2 _ hw l hl) sm_X2_isTooHigh k_X2_243 rfl ⟨Nat.le_of_ble_eq_true rfl, Nat.le_of_ble_eq_true rfl⟩ (Nat.zero_le _) ⟨Nat.le_of_ble_eq_true rfl, Nat.le_of_ble_eq_true rfl⟩ dX2_rowsOf_3 rfl ?_
  refine J_if_eq (tgt := 12) hC dX2_rowsOf_6 (by decide) (fun c2 => ?_) (fun c2 => ?_)
  · have h := ite_t c2 h
    refine J_iconst (v := 1) hC dX2_rowsOf_12 (by decide) ?_
    refine J_istore_n (i := 3) (lv' := [(3, .int 1), (0, rf a0), (1, rf a1), (2, .int a2)]) rfl hC dX2_rowsOf_13 (by decide) rfl ?_
    refine J_iconst (v := 0) hC dX2_rowsOf_14 (by decide) ?_
    refine J_istore (lv' := [(4, .int 0), (3, .int 1), (0, rf a0), (1, rf a1), (2, .int a2)]) hC dX2_rowsOf_15 (by decide) rfl ?_
    refine J_sub [2, 3, 4, 1, 0] rfl ?_
    refine tX2_rowsOf_17 M a0 a1 a2 hC _ (fun x7 x8 h => ?_) FU 1 0 h
    · refine J_iload_n (j := 3) hC dX2_rowsOf_46 rfl ?_
      exact J_iret hC dX2_rowsOf_47 (by have h9 := Option.some.inj h; subst h9; rfl) (Nat.le_of_ble_eq_true rfl) (Nat.le_of_ble_eq_true rfl)
  · have h := ite_f c2 h
    refine J_bipush (v := (-9)) hC dX2_rowsOf_9 (by decide) ?_
    exact J_iret hC dX2_rowsOf_11 (by have h9 := Option.some.inj h; subst h9; rfl) (Nat.le_of_ble_eq_true rfl) (Nat.le_of_ble_eq_true rfl)
abbrev rm_X2_many : Room := { frames := 7, cells := 3, slots := 18, locals := 111 }

set_option maxHeartbeats 4000000 in
set_option maxRecDepth 100000 in
theorem cX2_many_ok (M : Mem) (a0 : Option Nat) (a1 : Int32) (a2 : Int32) (a3 : Int32) (r0 : String ⊕ Int32) (h : fX2_many M a0 a1 a2 a3 = some r0) : ∀ l : Launch, l.stackTraces = false → Con true l yX2_many cX2_many 4 (some .int) rm_X2_many [rf a0, .int a1, .int a2, .int a3] M (M, mapR (fun v => some (Value.int v)) r0) := by
  intro l hst
  refine Con.enterX hst (own := RX2) (by decide +kernel) rfl (by exact Nat.le_of_ble_eq_true rfl) (lv0 := [(0, rf a0), (1, .int a1), (2, .int a2), (3, .int a3)]) (rfl) (fun C hC => ?_)
  unfold fX2_many at h
  refine J_iload_n (j := 1) hC dX2_many_0 rfl ?_
  refine bnd_c h (fun w1 hw h => ?_)
  refine thrE_c h (fun E hE h => ?_) (fun v2 hv h => ?_)
  · exact J_thrS (E := E) (As := [.int a1]) (M' := M) (st := []) hC (fun l hl => by have h9 := cX2_checkNumber_ok M a1 _ hw l hl; rw [hE] at h9; exact h9) sm_X2_checkNumber k_X2_56 rfl ⟨Nat.le_of_ble_eq_true rfl, Nat.le_of_ble_eq_true rfl⟩ (Nat.zero_le _) ⟨Nat.le_of_ble_eq_true rfl, Nat.le_of_ble_eq_true rfl⟩ dX2_many_1 rfl (by have h9 := Option.some.inj h; subst h9; rfl)
  · refine J_callSX (As := [.int a1]) (M' := M) (rv := none) (st := []) hC (fun l hl => by have h9 := cX2_checkNumber_ok M a1 _ hw l hl; rw [hv] at h9; exact h9) sm_X2_checkNumber k_X2_56 rfl ⟨Nat.le_of_ble_eq_true rfl, Nat.le_of_ble_eq_true rfl⟩ (Nat.zero_le _) ⟨Nat.le_of_ble_eq_true rfl, Nat.le_of_ble_eq_true rfl⟩ dX2_many_1 rfl ?_
    refine J_iload_n (j := 2) hC dX2_many_4 rfl ?_
    refine bnd_c h (fun w3 hw h => ?_)
    refine thrE_c h (fun E hE h => ?_) (fun v4 hv h => ?_)
    · exact J_thrS (E := E) (As := [.int a2]) (M' := M) (st := []) hC (fun l hl => by have h9 := cX2_checkNumber_ok M a2 _ hw l hl; rw [hE] at h9; exact h9) sm_X2_checkNumber k_X2_56 rfl ⟨Nat.le_of_ble_eq_true rfl, Nat.le_of_ble_eq_true rfl⟩ (Nat.zero_le _) ⟨Nat.le_of_ble_eq_true rfl, Nat.le_of_ble_eq_true rfl⟩ dX2_many_5 rfl (by have h9 := Option.some.inj h; subst h9; rfl)
    · refine J_callSX (As := [.int a2]) (M' := M) (rv := none) (st := []) hC (fun l hl => by have h9 := cX2_checkNumber_ok M a2 _ hw l hl; rw [hv] at h9; exact h9) sm_X2_checkNumber k_X2_56 rfl ⟨Nat.le_of_ble_eq_true rfl, Nat.le_of_ble_eq_true rfl⟩ (Nat.zero_le _) ⟨Nat.le_of_ble_eq_true rfl, Nat.le_of_ble_eq_true rfl⟩ dX2_many_5 rfl ?_
      refine J_iload_n (j := 3) hC dX2_many_8 rfl ?_
      refine J_iconst (v := 2) hC dX2_many_9 (by decide) ?_
      refine bnd_c h (fun w5 hw h => ?_)
      refine thrE_c h (fun E hE h => ?_) (fun v6 hv h => ?_)
      · exact J_thrS (E := E) (As := [.int a3, .int 2]) (M' := M) (st := []) hC (fun l hl => by have h9 := cX2_checkWhat_ok M a3 2 _ hw l hl; rw [hE] at h9; exact h9) sm_X2_checkWhat k_X2_151 rfl ⟨Nat.le_of_ble_eq_true rfl, Nat.le_of_ble_eq_true rfl⟩ (Nat.zero_le _) ⟨Nat.le_of_ble_eq_true rfl, Nat.le_of_ble_eq_true rfl⟩ dX2_many_10 rfl (by have h9 := Option.some.inj h; subst h9; rfl)
      · refine J_callSX (As := [.int a3, .int 2]) (M' := M) (rv := none) (st := []) hC (fun l hl => by have h9 := cX2_checkWhat_ok M a3 2 _ hw l hl; rw [hv] at h9; exact h9) sm_X2_checkWhat k_X2_151 rfl ⟨Nat.le_of_ble_eq_true rfl, Nat.le_of_ble_eq_true rfl⟩ (Nat.zero_le _) ⟨Nat.le_of_ble_eq_true rfl, Nat.le_of_ble_eq_true rfl⟩ dX2_many_10 rfl ?_
        refine J_aload_n (j := 0) hC dX2_many_13 rfl ?_
        refine J_g2_0 hC k_X2_12 dX2_many_14 h (fun v7 _ h => ?_)
        refine J_g1_0 hC k_X2_69 dX2_many_17 h (fun v8 _ h => ?_)
        refine J_iload_n (j := 1) hC dX2_many_20 rfl ?_
        refine J_aald9 hC dX2_many_21 h (fun v9 _ h => ?_)
        refine J_aload_n (j := 0) hC dX2_many_22 rfl ?_
        refine J_g2_0 hC k_X2_12 dX2_many_23 h (fun v10 _ h => ?_)
        refine J_g1_0 hC k_X2_69 dX2_many_26 h (fun v11 _ h => ?_)
        refine J_iload_n (j := 2) hC dX2_many_29 rfl ?_
        refine J_aald9 hC dX2_many_30 h (fun v12 _ h => ?_)
        refine J_iload_n (j := 3) hC dX2_many_31 rfl ?_
        refine bnd_c h (fun w13 hw h => ?_)
        refine J_callS (As := [rf v9, rf v12, .int a3]) (M' := M) (rv := some (Value.int w13)) (st := []) hC (fun l hl => cX2_rowsOf_ok M v9 v12 a3 _ hw l hl) sm_X2_rowsOf k_X2_177 rfl ⟨Nat.le_of_ble_eq_true rfl, Nat.le_of_ble_eq_true rfl⟩ (Nat.zero_le _) ⟨Nat.le_of_ble_eq_true rfl, Nat.le_of_ble_eq_true rfl⟩ dX2_many_32 rfl ?_
        exact J_iret hC dX2_many_35 (by have h9 := Option.some.inj h; subst h9; rfl) (Nat.le_of_ble_eq_true rfl) (Nat.le_of_ble_eq_true rfl)
abbrev rm_X2_isAmong : Room := { frames := 3, cells := 0, slots := 0, locals := 67 }

set_option maxHeartbeats 4000000 in
set_option maxRecDepth 100000 in
theorem tX2_isAmong_14 {C : JC} {r0 : Int32} (M : Mem) (x0 : Option Nat) (x1 : Option Nat) (x2 : Option Nat) (x3 : Int32) (hC : Ok C false cX2_isAmong 5 rm_X2_isAmong (some .boolean) RX2 (M, Sum.inr (some (Value.int r0))))  (k39 : Int32 → Option (Int32)) (k47 : Int32 → Option (Int32)) (hk39 : ∀ (x4 : Int32), k39 x4 = some r0 → J C 0 0 M 39 [(0, rf x0), (1, rf x1), (2, rf x2), (3, .int x3), (4, .int x4)] []) (hk47 : ∀ (x4 : Int32), k47 x4 = some r0 → J C 0 0 M 47 [(0, rf x0), (1, rf x1), (2, rf x2), (3, .int x3), (4, .int x4)] []) : ∀ (n : Nat) (x4 : Int32), fX2_isAmong_14 M x0 x1 x2 x3 k39 k47 n x4 = some r0 → J C 0 0 M 14 [(0, rf x0), (1, rf x1), (2, rf x2), (3, .int x3), (4, .int x4)] [] := by
  intro n
  induction n with
  | zero => intro x4 h; have h : none = some r0 := h; cases h
  | succ n ih =>
    intro x4 h
    rw [fX2_isAmong_14] at h
    refine J_iload (j := 4) hC dX2_isAmong_14 rfl ?_
    refine J_bipush (v := 9) hC dX2_isAmong_16 (by decide) ?_
    refine J_icmp_ge (tgt := 47) hC dX2_isAmong_18 (by decide) (fun c3 => ?_) (fun c3 => ?_)
    · have h := ite_t c3 h
      refine J_sub [0, 1, 2, 3, 4] rfl ?_
      exact hk47 x4 h
    · have h := ite_f c3 h
      refine J_aload_n (j := 1) hC dX2_isAmong_21 rfl ?_
      refine J_aload_n (j := 2) hC dX2_isAmong_22 rfl ?_
      refine J_iload_n (j := 3) hC dX2_isAmong_23 rfl ?_
      refine J_iload (j := 4) hC dX2_isAmong_24 rfl ?_
      refine bnd_c h (fun w4 hw h => ?_)
      refine J_callS (As := [rf x1, rf x2, .int x3, .int x4]) (M' := M) (rv := some (Value.int w4)) (st := []) hC (fun l hl => cX2_marksAt_ok M x1 x2 x3 x4 _ hw l hl) sm_X2_marksAt k_X2_247 rfl ⟨Nat.le_of_ble_eq_true rfl, Nat.le_of_ble_eq_true rfl⟩ (Nat.zero_le _) ⟨Nat.le_of_ble_eq_true rfl, Nat.le_of_ble_eq_true rfl⟩ dX2_isAmong_26 rfl ?_
      refine J_aload_n (j := 0) hC dX2_isAmong_29 rfl ?_
      refine J_iload (j := 4) hC dX2_isAmong_30 rfl ?_
      refine J_iald hC dX2_isAmong_32 h (fun v5 _ h => ?_)
      refine bnd_c h (fun w6 hw h => ?_)
      refine J_callS (As := [.int w4, .int v5]) (M' := M) (rv := some (Value.int w6)) (st := []) hC (fun l hl => cX2_holds_ok M w4 v5 _ hw l hl) sm_X2_holds k_X2_251 rfl ⟨Nat.le_of_ble_eq_true rfl, Nat.le_of_ble_eq_true rfl⟩ (Nat.zero_le _) ⟨Nat.le_of_ble_eq_true rfl, Nat.le_of_ble_eq_true rfl⟩ dX2_isAmong_33 rfl ?_
      refine J_if_ne (tgt := 41) hC dX2_isAmong_36 (by decide) (fun c7 => ?_) (fun c7 => ?_)
      · have h := ite_f c7 h
        refine J_inc (j := 4) (k := 1) (lv' := [(4, .int (x4 + 1)), (0, rf x0), (1, rf x1), (2, rf x2), (3, .int x3)]) hC dX2_isAmong_41 (by decide) rfl (by decide) rfl ?_
        refine J_goto (tgt := 14) hC dX2_isAmong_44 (by decide) ?_
        refine J_sub [1, 2, 3, 4, 0] rfl ?_
        exact ih (x4 + 1) h
      · have h := ite_t c7 h
        refine J_sub [0, 1, 2, 3, 4] rfl ?_
        exact hk39 x4 h
set_option maxHeartbeats 4000000 in
set_option maxRecDepth 100000 in
theorem cX2_isAmong_ok (M : Mem) (a0 : Option Nat) (a1 : Option Nat) (a2 : Option Nat) (a3 : Int32) (r0 : Int32) (h : fX2_isAmong M a0 a1 a2 a3 = some r0) : ∀ l : Launch, l.stackTraces = false → Con false l yX2_isAmong cX2_isAmong 5 (some .boolean) rm_X2_isAmong [rf a0, rf a1, rf a2, .int a3] M (M, Sum.inr (some (Value.int r0))) := by
  intro l hst
  refine Con.enter hst (own := RX2) (by decide +kernel) rfl (by exact Nat.le_of_ble_eq_true rfl) (lv0 := [(0, rf a0), (1, rf a1), (2, rf a2), (3, .int a3)]) (rfl) (fun C hC hin => ?_)
  unfold fX2_isAmong at h
  refine J_aload_n (j := 1) hC dX2_isAmong_0 rfl ?_
  refine J_aload_n (j := 2) hC dX2_isAmong_1 rfl ?_
  refine J_iload_n (j := 3) hC dX2_isAmong_2 rfl ?_
  refine bnd_c h (fun w1 hw h => ?_)
  refine J_callS (As := [rf a1, rf a2, .int a3]) (M' := M) (rv := some (Value.int w1)) (st := []) hC (fun l hl => cX2_isTooHigh_ok M a1 a2 a3 _ hw l hl) sm_X2_isTooHigh k_X2_243 rfl ⟨Nat.le_of_ble_eq_true rfl, Nat.le_of_ble_eq_true rfl⟩ (Nat.zero_le _) ⟨Nat.le_of_ble_eq_true rfl, Nat.le_of_ble_eq_true rfl⟩ dX2_isAmong_3 rfl ?_
  refine J_if_eq (tgt := 11) hC dX2_isAmong_6 (by decide) (fun c2 => ?_) (fun c2 => ?_)
  · have h := ite_t c2 h
    refine J_iconst (v := 0) hC dX2_isAmong_11 (by decide) ?_
    refine J_istore (lv' := [(4, .int 0), (0, rf a0), (1, rf a1), (2, rf a2), (3, .int a3)]) hC dX2_isAmong_12 (by decide) rfl ?_
    refine J_sub [1, 2, 3, 4, 0] rfl ?_
    refine tX2_isAmong_14 M a0 a1 a2 a3 hC _ _ (fun x8 h => ?_) (fun x9 h => ?_) FU 0 h
    · refine J_iconst (v := 0) hC dX2_isAmong_39 (by decide) ?_
      exact J_zret hC dX2_isAmong_40 (by decide) (by have h9 := Option.some.inj h; subst h9; rfl) (Nat.le_of_ble_eq_true rfl) (Nat.le_of_ble_eq_true rfl)
    · refine J_iconst (v := 1) hC dX2_isAmong_47 (by decide) ?_
      exact J_zret hC dX2_isAmong_48 (by decide) (by have h9 := Option.some.inj h; subst h9; rfl) (Nat.le_of_ble_eq_true rfl) (Nat.le_of_ble_eq_true rfl)
  · have h := ite_f c2 h
    refine J_iconst (v := 0) hC dX2_isAmong_9 (by decide) ?_
    exact J_zret hC dX2_isAmong_10 (by decide) (by have h9 := Option.some.inj h; subst h9; rfl) (Nat.le_of_ble_eq_true rfl) (Nat.le_of_ble_eq_true rfl)
abbrev rm_X2_isIn : Room := { frames := 7, cells := 4, slots := 24, locals := 111 }

set_option maxHeartbeats 4000000 in
set_option maxRecDepth 100000 in
theorem cX2_isIn_ok (M : Mem) (a0 : Option Nat) (a1 : Int32) (a2 : Int32) (a3 : Int32) (a4 : Int32) (r0 : String ⊕ Int32) (h : fX2_isIn M a0 a1 a2 a3 a4 = some r0) : ∀ l : Launch, l.stackTraces = false → Con true l yX2_isIn cX2_isIn 5 (some .int) rm_X2_isIn [rf a0, .int a1, .int a2, .int a3, .int a4] M (M, mapR (fun v => some (Value.int v)) r0) := by
  intro l hst
  refine Con.enterX hst (own := RX2) (by decide +kernel) rfl (by exact Nat.le_of_ble_eq_true rfl) (lv0 := [(0, rf a0), (1, .int a1), (2, .int a2), (3, .int a3), (4, .int a4)]) (rfl) (fun C hC => ?_)
  unfold fX2_isIn at h
  refine J_iload_n (j := 1) hC dX2_isIn_0 rfl ?_
  refine bnd_c h (fun w1 hw h => ?_)
  refine thrE_c h (fun E hE h => ?_) (fun v2 hv h => ?_)
  · exact J_thrS (E := E) (As := [.int a1]) (M' := M) (st := []) hC (fun l hl => by have h9 := cX2_checkNumber_ok M a1 _ hw l hl; rw [hE] at h9; exact h9) sm_X2_checkNumber k_X2_56 rfl ⟨Nat.le_of_ble_eq_true rfl, Nat.le_of_ble_eq_true rfl⟩ (Nat.zero_le _) ⟨Nat.le_of_ble_eq_true rfl, Nat.le_of_ble_eq_true rfl⟩ dX2_isIn_1 rfl (by have h9 := Option.some.inj h; subst h9; rfl)
  · refine J_callSX (As := [.int a1]) (M' := M) (rv := none) (st := []) hC (fun l hl => by have h9 := cX2_checkNumber_ok M a1 _ hw l hl; rw [hv] at h9; exact h9) sm_X2_checkNumber k_X2_56 rfl ⟨Nat.le_of_ble_eq_true rfl, Nat.le_of_ble_eq_true rfl⟩ (Nat.zero_le _) ⟨Nat.le_of_ble_eq_true rfl, Nat.le_of_ble_eq_true rfl⟩ dX2_isIn_1 rfl ?_
    refine J_iload_n (j := 2) hC dX2_isIn_4 rfl ?_
    refine bnd_c h (fun w3 hw h => ?_)
    refine thrE_c h (fun E hE h => ?_) (fun v4 hv h => ?_)
    · exact J_thrS (E := E) (As := [.int a2]) (M' := M) (st := []) hC (fun l hl => by have h9 := cX2_checkNumber_ok M a2 _ hw l hl; rw [hE] at h9; exact h9) sm_X2_checkNumber k_X2_56 rfl ⟨Nat.le_of_ble_eq_true rfl, Nat.le_of_ble_eq_true rfl⟩ (Nat.zero_le _) ⟨Nat.le_of_ble_eq_true rfl, Nat.le_of_ble_eq_true rfl⟩ dX2_isIn_5 rfl (by have h9 := Option.some.inj h; subst h9; rfl)
    · refine J_callSX (As := [.int a2]) (M' := M) (rv := none) (st := []) hC (fun l hl => by have h9 := cX2_checkNumber_ok M a2 _ hw l hl; rw [hv] at h9; exact h9) sm_X2_checkNumber k_X2_56 rfl ⟨Nat.le_of_ble_eq_true rfl, Nat.le_of_ble_eq_true rfl⟩ (Nat.zero_le _) ⟨Nat.le_of_ble_eq_true rfl, Nat.le_of_ble_eq_true rfl⟩ dX2_isIn_5 rfl ?_
      refine J_iload_n (j := 3) hC dX2_isIn_8 rfl ?_
      refine bnd_c h (fun w5 hw h => ?_)
      refine thrE_c h (fun E hE h => ?_) (fun v6 hv h => ?_)
      · exact J_thrS (E := E) (As := [.int a3]) (M' := M) (st := []) hC (fun l hl => by have h9 := cX2_checkNumber_ok M a3 _ hw l hl; rw [hE] at h9; exact h9) sm_X2_checkNumber k_X2_56 rfl ⟨Nat.le_of_ble_eq_true rfl, Nat.le_of_ble_eq_true rfl⟩ (Nat.zero_le _) ⟨Nat.le_of_ble_eq_true rfl, Nat.le_of_ble_eq_true rfl⟩ dX2_isIn_9 rfl (by have h9 := Option.some.inj h; subst h9; rfl)
      · refine J_callSX (As := [.int a3]) (M' := M) (rv := none) (st := []) hC (fun l hl => by have h9 := cX2_checkNumber_ok M a3 _ hw l hl; rw [hv] at h9; exact h9) sm_X2_checkNumber k_X2_56 rfl ⟨Nat.le_of_ble_eq_true rfl, Nat.le_of_ble_eq_true rfl⟩ (Nat.zero_le _) ⟨Nat.le_of_ble_eq_true rfl, Nat.le_of_ble_eq_true rfl⟩ dX2_isIn_9 rfl ?_
        refine J_iload (j := 4) hC dX2_isIn_12 rfl ?_
        refine J_iconst (v := 2) hC dX2_isIn_14 (by decide) ?_
        refine bnd_c h (fun w7 hw h => ?_)
        refine thrE_c h (fun E hE h => ?_) (fun v8 hv h => ?_)
        · exact J_thrS (E := E) (As := [.int a4, .int 2]) (M' := M) (st := []) hC (fun l hl => by have h9 := cX2_checkWhat_ok M a4 2 _ hw l hl; rw [hE] at h9; exact h9) sm_X2_checkWhat k_X2_151 rfl ⟨Nat.le_of_ble_eq_true rfl, Nat.le_of_ble_eq_true rfl⟩ (Nat.zero_le _) ⟨Nat.le_of_ble_eq_true rfl, Nat.le_of_ble_eq_true rfl⟩ dX2_isIn_15 rfl (by have h9 := Option.some.inj h; subst h9; rfl)
        · refine J_callSX (As := [.int a4, .int 2]) (M' := M) (rv := none) (st := []) hC (fun l hl => by have h9 := cX2_checkWhat_ok M a4 2 _ hw l hl; rw [hv] at h9; exact h9) sm_X2_checkWhat k_X2_151 rfl ⟨Nat.le_of_ble_eq_true rfl, Nat.le_of_ble_eq_true rfl⟩ (Nat.zero_le _) ⟨Nat.le_of_ble_eq_true rfl, Nat.le_of_ble_eq_true rfl⟩ dX2_isIn_15 rfl ?_
          refine J_aload_n (j := 0) hC dX2_isIn_18 rfl ?_
          refine J_g2_0 hC k_X2_12 dX2_isIn_19 h (fun v9 _ h => ?_)
          refine J_g1_0 hC k_X2_69 dX2_isIn_22 h (fun v10 _ h => ?_)
          refine J_iload_n (j := 1) hC dX2_isIn_25 rfl ?_
          refine J_aald9 hC dX2_isIn_26 h (fun v11 _ h => ?_)
          refine J_aload_n (j := 0) hC dX2_isIn_27 rfl ?_
          refine J_g2_0 hC k_X2_12 dX2_isIn_28 h (fun v12 _ h => ?_)
          refine J_g1_0 hC k_X2_69 dX2_isIn_31 h (fun v13 _ h => ?_)
          refine J_iload_n (j := 2) hC dX2_isIn_34 rfl ?_
          refine J_aald9 hC dX2_isIn_35 h (fun v14 _ h => ?_)
          refine J_aload_n (j := 0) hC dX2_isIn_36 rfl ?_
          refine J_g2_0 hC k_X2_12 dX2_isIn_37 h (fun v15 _ h => ?_)
          refine J_g1_0 hC k_X2_69 dX2_isIn_40 h (fun v16 _ h => ?_)
          refine J_iload_n (j := 3) hC dX2_isIn_43 rfl ?_
          refine J_aald9 hC dX2_isIn_44 h (fun v17 _ h => ?_)
          refine J_iload (j := 4) hC dX2_isIn_45 rfl ?_
          refine bnd_c h (fun w18 hw h => ?_)
          refine J_callS (As := [rf v11, rf v14, rf v17, .int a4]) (M' := M) (rv := some (Value.int w18)) (st := []) hC (fun l hl => cX2_isAmong_ok M v11 v14 v17 a4 _ hw l hl) sm_X2_isAmong k_X2_181 rfl ⟨Nat.le_of_ble_eq_true rfl, Nat.le_of_ble_eq_true rfl⟩ (Nat.zero_le _) ⟨Nat.le_of_ble_eq_true rfl, Nat.le_of_ble_eq_true rfl⟩ dX2_isIn_47 rfl ?_
          have hj : ∀ (z19 : Int32), z19 = (if w18 = 0 then 0 else 1) → J C 4 24 M 58 [(0, rf a0), (1, .int a1), (2, .int a2), (3, .int a3), (4, .int a4)] [.int z19] := by
            intro z19 ez19
            subst ez19
            exact J_iret hC dX2_isIn_58 (by have h9 := Option.some.inj h; subst h9; rfl) (Nat.le_of_ble_eq_true rfl) (Nat.le_of_ble_eq_true rfl)
          refine J_if_eq (tgt := 57) hC dX2_isIn_50 (by decide) (fun c20 => ?_) (fun c20 => ?_)
          · refine J_iconst (v := 0) hC dX2_isIn_57 (by decide) ?_
            refine J_sub [0, 1, 2, 3, 4] rfl ?_
            exact hj _ (if_pos c20).symm
          · refine J_iconst (v := 1) hC dX2_isIn_53 (by decide) ?_
            refine J_goto (tgt := 58) hC dX2_isIn_54 (by decide) ?_
            refine J_sub [0, 1, 2, 3, 4] rfl ?_
            exact hj _ (if_neg c20).symm
abbrev rm_X2_coefficient : Room := { frames := 7, cells := 1, slots := 6, locals := 110 }

set_option maxHeartbeats 4000000 in
set_option maxRecDepth 100000 in
theorem cX2_coefficient_ok (M : Mem) (a0 : Option Nat) (a1 : Int32) (r0 : Mem × (String ⊕ Int64)) (h : fX2_coefficient M a0 a1 = some r0) : ∀ l : Launch, l.stackTraces = false → Con true l yX2_coefficient cX2_coefficient 2 (some .long) rm_X2_coefficient [rf a0, .int a1] M (r0.1, mapR (fun v => some (Value.long v)) r0.2) := by
  intro l hst
  refine Con.enterX hst (own := RX2) (by decide +kernel) rfl (by exact Nat.le_of_ble_eq_true rfl) (lv0 := [(0, rf a0), (1, .int a1)]) (rfl) (fun C hC => ?_)
  unfold fX2_coefficient at h
  refine J_iload_n (j := 1) hC dX2_coefficient_0 rfl ?_
  refine bnd_c h (fun w1 hw h => ?_)
  refine thrE_c h (fun E hE h => ?_) (fun v2 hv h => ?_)
  · exact J_thrS (E := E) (As := [.int a1]) (M' := M) (st := []) hC (fun l hl => by have h9 := cX2_checkPower_ok M a1 _ hw l hl; rw [hE] at h9; exact h9) sm_X2_checkPower k_X2_60 rfl ⟨Nat.le_of_ble_eq_true rfl, Nat.le_of_ble_eq_true rfl⟩ (Nat.zero_le _) ⟨Nat.le_of_ble_eq_true rfl, Nat.le_of_ble_eq_true rfl⟩ dX2_coefficient_1 rfl (by have h9 := Option.some.inj h; subst h9; rfl)
  · refine J_callSX (As := [.int a1]) (M' := M) (rv := none) (st := []) hC (fun l hl => by have h9 := cX2_checkPower_ok M a1 _ hw l hl; rw [hv] at h9; exact h9) sm_X2_checkPower k_X2_60 rfl ⟨Nat.le_of_ble_eq_true rfl, Nat.le_of_ble_eq_true rfl⟩ (Nat.zero_le _) ⟨Nat.le_of_ble_eq_true rfl, Nat.le_of_ble_eq_true rfl⟩ dX2_coefficient_1 rfl ?_
    refine J_aload_n (j := 0) hC dX2_coefficient_4 rfl ?_
    refine ck_c h (fun ho h => ?_)
    refine bnd_c h (fun w3 hw h => ?_)
    refine J_callV (As := []) (M' := w3) (rv := none) (st := []) hC (fun l hl => cX2_expandWhole_ok M a0 _ hw l hl) vm_X2_expandWhole k_X2_113 ho ⟨rfl, rfl⟩ rfl ⟨Nat.le_of_ble_eq_true rfl, Nat.le_of_ble_eq_true rfl⟩ (Nat.zero_le _) ⟨Nat.le_of_ble_eq_true rfl, Nat.le_of_ble_eq_true rfl⟩ dX2_coefficient_5 rfl ?_
    refine J_aload_n (j := 0) hC dX2_coefficient_8 rfl ?_
    refine J_g2_7 hC k_X2_38 dX2_coefficient_9 h (fun v4 _ h => ?_)
    refine J_iload_n (j := 1) hC dX2_coefficient_12 rfl ?_
    refine J_lald hC dX2_coefficient_13 h (fun v5 _ h => ?_)
    exact J_lret hC dX2_coefficient_14 (by have h9 := Option.some.inj h; subst h9; rfl) (Nat.le_of_ble_eq_true rfl) (Nat.le_of_ble_eq_true rfl)
abbrev rm_X2_rootsOfSign : Room := { frames := 1, cells := 0, slots := 0, locals := 21 }

set_option maxHeartbeats 4000000 in
set_option maxRecDepth 100000 in
theorem tX2_rootsOfSign_4 {C : JC} {r0 : Int32} (M : Mem) (x0 : Option Nat) (x1 : Int32) (hC : Ok C false cX2_rootsOfSign 4 rm_X2_rootsOfSign (some .int) RX2 (M, Sum.inr (some (Value.int r0))))  (k47 : Int32 → Int32 → Option (Int32)) (hk47 : ∀ (x2 : Int32) (x3 : Int32), k47 x2 x3 = some r0 → J C 0 0 M 47 [(0, rf x0), (1, .int x1), (2, .int x2), (3, .int x3)] []) : ∀ (n : Nat) (x2 : Int32) (x3 : Int32), fX2_rootsOfSign_4 M x0 x1 k47 n x2 x3 = some r0 → J C 0 0 M 4 [(0, rf x0), (1, .int x1), (2, .int x2), (3, .int x3)] [] := by
  intro n
  induction n with
  | zero => intro x2 x3 h; have h : none = some r0 := h; cases h
  | succ n ih =>
    intro x2 x3 h
    rw [fX2_rootsOfSign_4] at h
    refine J_iload_n (j := 3) hC dX2_rootsOfSign_4 rfl ?_
    refine J_aload_n (j := 0) hC dX2_rootsOfSign_5 rfl ?_
    refine J_g2_0 hC k_X2_12 dX2_rootsOfSign_6 h (fun v1 _ h => ?_)
    refine J_g1_2 hC k_X2_107 dX2_rootsOfSign_9 h (fun v2 _ h => ?_)
    refine J_icmp_ge (tgt := 47) hC dX2_rootsOfSign_12 (by decide) (fun c3 => ?_) (fun c3 => ?_)
    · have h := ite_t c3 h
      refine J_sub [0, 1, 2, 3] rfl ?_
      exact hk47 x2 x3 h
    · have h := ite_f c3 h
      refine J_iload_n (j := 3) hC dX2_rootsOfSign_15 rfl ?_
      refine J_bipush (v := 8) hC dX2_rootsOfSign_16 (by decide) ?_
      refine J_icmp_ge (tgt := 47) hC dX2_rootsOfSign_18 (by decide) (fun c4 => ?_) (fun c4 => ?_)
      · have h := ite_t c4 h
        refine J_sub [0, 1, 2, 3] rfl ?_
        exact hk47 x2 x3 h
      · have h := ite_f c4 h
        refine J_aload_n (j := 0) hC dX2_rootsOfSign_21 rfl ?_
        refine J_g2_0 hC k_X2_12 dX2_rootsOfSign_22 h (fun v5 _ h => ?_)
        refine J_g1_1 hC k_X2_110 dX2_rootsOfSign_25 h (fun v6 _ h => ?_)
        refine J_iload_n (j := 3) hC dX2_rootsOfSign_28 rfl ?_
        refine J_iald hC dX2_rootsOfSign_29 h (fun v7 _ h => ?_)
        refine J_i2l hC dX2_rootsOfSign_30 ?_
        refine bnd_c h (fun w8 hw h => ?_)
        refine J_callS (As := [.long v7.toInt64]) (M' := M) (rv := some (Value.int w8)) (st := []) hC (fun l hl => cX2_signOf_ok M v7.toInt64 _ hw l hl) sm_X2_signOf k_X2_116 rfl ⟨Nat.le_of_ble_eq_true rfl, Nat.le_of_ble_eq_true rfl⟩ (Nat.zero_le _) ⟨Nat.le_of_ble_eq_true rfl, Nat.le_of_ble_eq_true rfl⟩ dX2_rootsOfSign_31 rfl ?_
        refine J_iload_n (j := 1) hC dX2_rootsOfSign_34 rfl ?_
        refine J_icmp_ne (tgt := 41) hC dX2_rootsOfSign_35 (by decide) (fun c9 => ?_) (fun c9 => ?_)
        · have h := ite_f c9 h
          refine J_inc (j := 3) (k := 1) (lv' := [(3, .int (x3 + 1)), (0, rf x0), (1, .int x1), (2, .int x2)]) hC dX2_rootsOfSign_41 (by decide) rfl (by decide) rfl ?_
          refine J_goto (tgt := 4) hC dX2_rootsOfSign_44 (by decide) ?_
          refine J_sub [1, 2, 3, 0] rfl ?_
          exact ih x2 (x3 + 1) h
        · have h := ite_t c9 h
          refine J_inc (j := 2) (k := 1) (lv' := [(2, .int (x2 + 1)), (0, rf x0), (1, .int x1), (3, .int x3)]) hC dX2_rootsOfSign_38 (by decide) rfl (by decide) rfl ?_
          refine J_inc (j := 3) (k := 1) (lv' := [(3, .int (x3 + 1)), (2, .int (x2 + 1)), (0, rf x0), (1, .int x1)]) hC dX2_rootsOfSign_41 (by decide) rfl (by decide) rfl ?_
          refine J_goto (tgt := 4) hC dX2_rootsOfSign_44 (by decide) ?_
          refine J_sub [2, 3, 1, 0] rfl ?_
          exact ih (x2 + 1) (x3 + 1) h
set_option maxHeartbeats 4000000 in
set_option maxRecDepth 100000 in
theorem cX2_rootsOfSign_ok (M : Mem) (a0 : Option Nat) (a1 : Int32) (r0 : Int32) (h : fX2_rootsOfSign M a0 a1 = some r0) : ∀ l : Launch, l.stackTraces = false → Con false l yX2_rootsOfSign cX2_rootsOfSign 4 (some .int) rm_X2_rootsOfSign [rf a0, .int a1] M (M, Sum.inr (some (Value.int r0))) := by
  intro l hst
  refine Con.enter hst (own := RX2) (by decide +kernel) rfl (by exact Nat.le_of_ble_eq_true rfl) (lv0 := [(0, rf a0), (1, .int a1)]) (rfl) (fun C hC hin => ?_)
  unfold fX2_rootsOfSign at h
  refine J_iconst (v := 0) hC dX2_rootsOfSign_0 (by decide) ?_
  refine J_istore_n (i := 2) (lv' := [(2, .int 0), (0, rf a0), (1, .int a1)]) rfl hC dX2_rootsOfSign_1 (by decide) rfl ?_
  refine J_iconst (v := 0) hC dX2_rootsOfSign_2 (by decide) ?_
  refine J_istore_n (i := 3) (lv' := [(3, .int 0), (2, .int 0), (0, rf a0), (1, .int a1)]) rfl hC dX2_rootsOfSign_3 (by decide) rfl ?_
  refine J_sub [2, 3, 1, 0] rfl ?_
  refine tX2_rootsOfSign_4 M a0 a1 hC _ (fun x10 x11 h => ?_) FU 0 0 h
  · refine J_iload_n (j := 2) hC dX2_rootsOfSign_47 rfl ?_
    exact J_iret hC dX2_rootsOfSign_48 (by have h9 := Option.some.inj h; subst h9; rfl) (Nat.le_of_ble_eq_true rfl) (Nat.le_of_ble_eq_true rfl)
abbrev rm_X2_withRootOne : Room := { frames := 3, cells := 0, slots := 0, locals := 64 }

set_option maxHeartbeats 4000000 in
set_option maxRecDepth 100000 in
theorem tX2_withRootOne_4 {C : JC} {r0 : Int32} (M : Mem) (x0 : Option Nat) (hC : Ok C false cX2_withRootOne 3 rm_X2_withRootOne (some .int) RX2 (M, Sum.inr (some (Value.int r0))))  (k34 : Int32 → Int32 → Option (Int32)) (hk34 : ∀ (x1 : Int32) (x2 : Int32), k34 x1 x2 = some r0 → J C 0 0 M 34 [(0, rf x0), (1, .int x1), (2, .int x2)] []) : ∀ (n : Nat) (x1 : Int32) (x2 : Int32), fX2_withRootOne_4 M x0 k34 n x1 x2 = some r0 → J C 0 0 M 4 [(0, rf x0), (1, .int x1), (2, .int x2)] [] := by
  intro n
  induction n with
  | zero => intro x1 x2 h; have h : none = some r0 := h; cases h
  | succ n ih =>
    intro x1 x2 h
    rw [fX2_withRootOne_4] at h
    refine J_iload_n (j := 2) hC dX2_withRootOne_4 rfl ?_
    refine J_iconst (v := 5) hC dX2_withRootOne_5 (by decide) ?_
    refine J_icmp_ge (tgt := 34) hC dX2_withRootOne_6 (by decide) (fun c1 => ?_) (fun c1 => ?_)
    · have h := ite_t c1 h
      refine J_sub [0, 1, 2] rfl ?_
      exact hk34 x1 x2 h
    · have h := ite_f c1 h
      refine J_aload_n (j := 0) hC dX2_withRootOne_9 rfl ?_
      refine J_g2_0 hC k_X2_12 dX2_withRootOne_10 h (fun v2 _ h => ?_)
      refine J_g1_0 hC k_X2_69 dX2_withRootOne_13 h (fun v3 _ h => ?_)
      refine J_iload_n (j := 2) hC dX2_withRootOne_16 rfl ?_
      refine J_aald9 hC dX2_withRootOne_17 h (fun v4 _ h => ?_)
      refine J_iconst (v := 1) hC dX2_withRootOne_18 (by decide) ?_
      refine bnd_c h (fun w5 hw h => ?_)
      refine J_callS (As := [rf v4, .int 1]) (M' := M) (rv := some (Value.int w5)) (st := []) hC (fun l hl => cX2_hasRoot_ok M v4 1 _ hw l hl) sm_X2_hasRoot k_X2_165 rfl ⟨Nat.le_of_ble_eq_true rfl, Nat.le_of_ble_eq_true rfl⟩ (Nat.zero_le _) ⟨Nat.le_of_ble_eq_true rfl, Nat.le_of_ble_eq_true rfl⟩ dX2_withRootOne_19 rfl ?_
      refine J_if_eq (tgt := 28) hC dX2_withRootOne_22 (by decide) (fun c6 => ?_) (fun c6 => ?_)
      · have h := ite_t c6 h
        refine J_inc (j := 2) (k := 1) (lv' := [(2, .int (x2 + 1)), (0, rf x0), (1, .int x1)]) hC dX2_withRootOne_28 (by decide) rfl (by decide) rfl ?_
        refine J_goto (tgt := 4) hC dX2_withRootOne_31 (by decide) ?_
        refine J_sub [1, 2, 0] rfl ?_
        exact ih x1 (x2 + 1) h
      · have h := ite_f c6 h
        refine J_inc (j := 1) (k := 1) (lv' := [(1, .int (x1 + 1)), (0, rf x0), (2, .int x2)]) hC dX2_withRootOne_25 (by decide) rfl (by decide) rfl ?_
        refine J_inc (j := 2) (k := 1) (lv' := [(2, .int (x2 + 1)), (1, .int (x1 + 1)), (0, rf x0)]) hC dX2_withRootOne_28 (by decide) rfl (by decide) rfl ?_
        refine J_goto (tgt := 4) hC dX2_withRootOne_31 (by decide) ?_
        refine J_sub [2, 1, 0] rfl ?_
        exact ih (x1 + 1) (x2 + 1) h
set_option maxHeartbeats 4000000 in
set_option maxRecDepth 100000 in
theorem cX2_withRootOne_ok (M : Mem) (a0 : Option Nat) (r0 : Int32) (h : fX2_withRootOne M a0 = some r0) : ∀ l : Launch, l.stackTraces = false → Con false l yX2_withRootOne cX2_withRootOne 3 (some .int) rm_X2_withRootOne [rf a0] M (M, Sum.inr (some (Value.int r0))) := by
  intro l hst
  refine Con.enter hst (own := RX2) (by decide +kernel) rfl (by exact Nat.le_of_ble_eq_true rfl) (lv0 := [(0, rf a0)]) (rfl) (fun C hC hin => ?_)
  unfold fX2_withRootOne at h
  refine J_iconst (v := 0) hC dX2_withRootOne_0 (by decide) ?_
  refine J_istore_n (i := 1) (lv' := [(1, .int 0), (0, rf a0)]) rfl hC dX2_withRootOne_1 (by decide) rfl ?_
  refine J_iconst (v := 0) hC dX2_withRootOne_2 (by decide) ?_
  refine J_istore_n (i := 2) (lv' := [(2, .int 0), (1, .int 0), (0, rf a0)]) rfl hC dX2_withRootOne_3 (by decide) rfl ?_
  refine J_sub [2, 1, 0] rfl ?_
  refine tX2_withRootOne_4 M a0 hC _ (fun x7 x8 h => ?_) FU 0 0 h
  · refine J_iload_n (j := 1) hC dX2_withRootOne_34 rfl ?_
    exact J_iret hC dX2_withRootOne_35 (by have h9 := Option.some.inj h; subst h9; rfl) (Nat.le_of_ble_eq_true rfl) (Nat.le_of_ble_eq_true rfl)
abbrev rm_X2_count : Room := { frames := 7, cells := 1, slots := 6, locals := 111 }

set_option maxHeartbeats 4000000 in
set_option maxRecDepth 100000 in
theorem cX2_count_ok (M : Mem) (a0 : Option Nat) (a1 : Int32) (r0 : String ⊕ Int32) (h : fX2_count M a0 a1 = some r0) : ∀ l : Launch, l.stackTraces = false → Con true l yX2_count cX2_count 2 (some .int) rm_X2_count [rf a0, .int a1] M (M, mapR (fun v => some (Value.int v)) r0) := by
  intro l hst
  refine Con.enterX hst (own := RX2) (by decide +kernel) rfl (by exact Nat.le_of_ble_eq_true rfl) (lv0 := [(0, rf a0), (1, .int a1)]) (rfl) (fun C hC => ?_)
  unfold fX2_count at h
  refine J_iload_n (j := 1) hC dX2_count_0 rfl ?_
  refine J_bipush (v := 8) hC dX2_count_1 (by decide) ?_
  refine bnd_c h (fun w1 hw h => ?_)
  refine thrE_c h (fun E hE h => ?_) (fun v2 hv h => ?_)
  · exact J_thrS (E := E) (As := [.int a1, .int 8]) (M' := M) (st := []) hC (fun l hl => by have h9 := cX2_checkWhat_ok M a1 8 _ hw l hl; rw [hE] at h9; exact h9) sm_X2_checkWhat k_X2_151 rfl ⟨Nat.le_of_ble_eq_true rfl, Nat.le_of_ble_eq_true rfl⟩ (Nat.zero_le _) ⟨Nat.le_of_ble_eq_true rfl, Nat.le_of_ble_eq_true rfl⟩ dX2_count_3 rfl (by have h9 := Option.some.inj h; subst h9; rfl)
  · refine J_callSX (As := [.int a1, .int 8]) (M' := M) (rv := none) (st := []) hC (fun l hl => by have h9 := cX2_checkWhat_ok M a1 8 _ hw l hl; rw [hv] at h9; exact h9) sm_X2_checkWhat k_X2_151 rfl ⟨Nat.le_of_ble_eq_true rfl, Nat.le_of_ble_eq_true rfl⟩ (Nat.zero_le _) ⟨Nat.le_of_ble_eq_true rfl, Nat.le_of_ble_eq_true rfl⟩ dX2_count_3 rfl ?_
    refine J_iload_n (j := 1) hC dX2_count_6 rfl ?_
    refine ite_c h (fun c0 h => ?_) (fun c0 h => ?_)
    · refine J_tabIn (tgt := 48) (off := 41) (k := 0) hC dX2_count_7 c0 (by decide) (by decide) (by decide +kernel) (by decide) ?_
      refine J_aload_n (j := 0) hC dX2_count_48 rfl ?_
      refine J_g2_0 hC k_X2_12 dX2_count_49 h (fun v4 _ h => ?_)
      refine J_g1_2 hC k_X2_107 dX2_count_52 h (fun v5 _ h => ?_)
      exact J_iret hC dX2_count_55 (by have h9 := Option.some.inj h; subst h9; rfl) (Nat.le_of_ble_eq_true rfl) (Nat.le_of_ble_eq_true rfl)
    · refine ite_c h (fun c1 h => ?_) (fun c1 h => ?_)
      · refine J_tabIn (tgt := 56) (off := 49) (k := 1) hC dX2_count_7 c1 (by decide) (by decide) (by decide +kernel) (by decide) ?_
        refine J_aload_n (j := 0) hC dX2_count_56 rfl ?_
        refine J_iconst (v := 1) hC dX2_count_57 (by decide) ?_
        refine ck_c h (fun ho h => ?_)
        refine bnd_c h (fun w6 hw h => ?_)
        refine J_callV (As := [.int 1]) (M' := M) (rv := some (Value.int w6)) (st := []) hC (fun l hl => cX2_rootsOfSign_ok M a0 1 _ hw l hl) vm_X2_rootsOfSign k_X2_185 ho ⟨rfl, rfl⟩ rfl ⟨Nat.le_of_ble_eq_true rfl, Nat.le_of_ble_eq_true rfl⟩ (Nat.zero_le _) ⟨Nat.le_of_ble_eq_true rfl, Nat.le_of_ble_eq_true rfl⟩ dX2_count_58 rfl ?_
        exact J_iret hC dX2_count_61 (by have h9 := Option.some.inj h; subst h9; rfl) (Nat.le_of_ble_eq_true rfl) (Nat.le_of_ble_eq_true rfl)
      · refine ite_c h (fun c2 h => ?_) (fun c2 h => ?_)
        · refine J_tabIn (tgt := 62) (off := 55) (k := 2) hC dX2_count_7 c2 (by decide) (by decide) (by decide +kernel) (by decide) ?_
          refine J_aload_n (j := 0) hC dX2_count_62 rfl ?_
          refine J_iconst (v := (-1)) hC dX2_count_63 (by decide) ?_
          refine ck_c h (fun ho h => ?_)
          refine bnd_c h (fun w7 hw h => ?_)
          refine J_callV (As := [.int (-1)]) (M' := M) (rv := some (Value.int w7)) (st := []) hC (fun l hl => cX2_rootsOfSign_ok M a0 (-1) _ hw l hl) vm_X2_rootsOfSign k_X2_185 ho ⟨rfl, rfl⟩ rfl ⟨Nat.le_of_ble_eq_true rfl, Nat.le_of_ble_eq_true rfl⟩ (Nat.zero_le _) ⟨Nat.le_of_ble_eq_true rfl, Nat.le_of_ble_eq_true rfl⟩ dX2_count_64 rfl ?_
          exact J_iret hC dX2_count_67 (by have h9 := Option.some.inj h; subst h9; rfl) (Nat.le_of_ble_eq_true rfl) (Nat.le_of_ble_eq_true rfl)
        · refine ite_c h (fun c3 h => ?_) (fun c3 h => ?_)
          · refine J_tabIn (tgt := 68) (off := 61) (k := 3) hC dX2_count_7 c3 (by decide) (by decide) (by decide +kernel) (by decide) ?_
            refine J_aload_n (j := 0) hC dX2_count_68 rfl ?_
            refine J_iconst (v := 0) hC dX2_count_69 (by decide) ?_
            refine ck_c h (fun ho h => ?_)
            refine bnd_c h (fun w8 hw h => ?_)
            refine J_callV (As := [.int 0]) (M' := M) (rv := some (Value.int w8)) (st := []) hC (fun l hl => cX2_rootsOfSign_ok M a0 0 _ hw l hl) vm_X2_rootsOfSign k_X2_185 ho ⟨rfl, rfl⟩ rfl ⟨Nat.le_of_ble_eq_true rfl, Nat.le_of_ble_eq_true rfl⟩ (Nat.zero_le _) ⟨Nat.le_of_ble_eq_true rfl, Nat.le_of_ble_eq_true rfl⟩ dX2_count_70 rfl ?_
            exact J_iret hC dX2_count_73 (by have h9 := Option.some.inj h; subst h9; rfl) (Nat.le_of_ble_eq_true rfl) (Nat.le_of_ble_eq_true rfl)
          · refine ite_c h (fun c4 h => ?_) (fun c4 h => ?_)
            · refine J_tabIn (tgt := 74) (off := 67) (k := 4) hC dX2_count_7 c4 (by decide) (by decide) (by decide +kernel) (by decide) ?_
              refine J_aload_n (j := 0) hC dX2_count_74 rfl ?_
              refine J_g2_0 hC k_X2_12 dX2_count_75 h (fun v9 _ h => ?_)
              refine J_g1_3 hC k_X2_97 dX2_count_78 h (fun v10 _ h => ?_)
              exact J_iret hC dX2_count_81 (by have h9 := Option.some.inj h; subst h9; rfl) (Nat.le_of_ble_eq_true rfl) (Nat.le_of_ble_eq_true rfl)
            · refine ite_c h (fun c5 h => ?_) (fun c5 h => ?_)
              · refine J_tabIn (tgt := 82) (off := 75) (k := 5) hC dX2_count_7 c5 (by decide) (by decide) (by decide +kernel) (by decide) ?_
                refine J_aload_n (j := 0) hC dX2_count_82 rfl ?_
                refine J_g2_0 hC k_X2_12 dX2_count_83 h (fun v11 _ h => ?_)
                refine J_g1_4 hC k_X2_77 dX2_count_86 h (fun v12 _ h => ?_)
                exact J_iret hC dX2_count_89 (by have h9 := Option.some.inj h; subst h9; rfl) (Nat.le_of_ble_eq_true rfl) (Nat.le_of_ble_eq_true rfl)
              · refine ite_c h (fun c6 h => ?_) (fun c6 h => ?_)
                · refine J_tabIn (tgt := 90) (off := 83) (k := 6) hC dX2_count_7 c6 (by decide) (by decide) (by decide +kernel) (by decide) ?_
                  refine J_aload_n (j := 0) hC dX2_count_90 rfl ?_
                  refine ck_c h (fun ho h => ?_)
                  refine bnd_c h (fun w13 hw h => ?_)
                  refine J_callV (As := []) (M' := M) (rv := some (Value.int w13)) (st := []) hC (fun l hl => cX2_withRootOne_ok M a0 _ hw l hl) vm_X2_withRootOne k_X2_188 ho ⟨rfl, rfl⟩ rfl ⟨Nat.le_of_ble_eq_true rfl, Nat.le_of_ble_eq_true rfl⟩ (Nat.zero_le _) ⟨Nat.le_of_ble_eq_true rfl, Nat.le_of_ble_eq_true rfl⟩ dX2_count_91 rfl ?_
                  exact J_iret hC dX2_count_94 (by have h9 := Option.some.inj h; subst h9; rfl) (Nat.le_of_ble_eq_true rfl) (Nat.le_of_ble_eq_true rfl)
                · have hd9 : a1.toInt < 0 ∨ 6 < a1.toInt := by
                    have e0 := ne_toInt c0
                    have e1 := ne_toInt c1
                    have e2 := ne_toInt c2
                    have e3 := ne_toInt c3
                    have e4 := ne_toInt c4
                    have e5 := ne_toInt c5
                    have e6 := ne_toInt c6
                    skip
                    have f0 : (0 : Int32).toInt = 0 := by decide
                    have f1 : (1 : Int32).toInt = 1 := by decide
                    have f2 : (2 : Int32).toInt = 2 := by decide
                    have f3 : (3 : Int32).toInt = 3 := by decide
                    have f4 : (4 : Int32).toInt = 4 := by decide
                    have f5 : (5 : Int32).toInt = 5 := by decide
                    have f6 : (6 : Int32).toInt = 6 := by decide
                    omega
                  refine J_tableOut (tgt := 95) hC dX2_count_7 hd9 (by decide) ?_
                  refine J_aload_n (j := 0) hC dX2_count_95 rfl ?_
                  refine J_g2_2 hC k_X2_20 dX2_count_96 h (fun v3 _ h => ?_)
                  exact J_iret hC dX2_count_99 (by have h9 := Option.some.inj h; subst h9; rfl) (Nat.le_of_ble_eq_true rfl) (Nat.le_of_ble_eq_true rfl)
abbrev rm_X2_count_r : Room := { frames := 7, cells := 0, slots := 0, locals := 111 }

set_option maxHeartbeats 4000000 in
set_option maxRecDepth 100000 in
theorem cX2_count_ret (M : Mem) (a0 : Option Nat) (a1 : Int32) (r0 : Int32) (h : fX2_count M a0 a1 = some (.inr r0)) : ∀ l : Launch, l.stackTraces = false → Con false l yX2_count cX2_count 2 (some .int) rm_X2_count_r [rf a0, .int a1] M (M, Sum.inr (some (Value.int r0))) := by
  intro l hst
  refine Con.enter hst (own := RX2) (by decide +kernel) rfl (by exact Nat.le_of_ble_eq_true rfl) (lv0 := [(0, rf a0), (1, .int a1)]) (rfl) (fun C hC hin => ?_)
  unfold fX2_count at h
  refine J_iload_n (j := 1) hC dX2_count_0 rfl ?_
  refine J_bipush (v := 8) hC dX2_count_1 (by decide) ?_
  refine bnd_c h (fun w1 hw h => ?_)
  refine thrE_c h (fun E hE h => ?_) (fun v2 hv h => ?_)
  · cases h
  · refine J_callS (As := [.int a1, .int 8]) (M' := M) (rv := none) (st := []) hC (fun l hl => cX2_checkWhat_ret M a1 8 v2 (by rw [hw, hv]) l hl) sm_X2_checkWhat k_X2_151 rfl ⟨Nat.le_of_ble_eq_true rfl, Nat.le_of_ble_eq_true rfl⟩ (Nat.zero_le _) ⟨Nat.le_of_ble_eq_true rfl, Nat.le_of_ble_eq_true rfl⟩ dX2_count_3 rfl ?_
    refine J_iload_n (j := 1) hC dX2_count_6 rfl ?_
    refine ite_c h (fun c0 h => ?_) (fun c0 h => ?_)
    · refine J_tabIn (tgt := 48) (off := 41) (k := 0) hC dX2_count_7 c0 (by decide) (by decide) (by decide +kernel) (by decide) ?_
      refine J_aload_n (j := 0) hC dX2_count_48 rfl ?_
      refine J_g2_0 hC k_X2_12 dX2_count_49 h (fun v4 _ h => ?_)
      refine J_g1_2 hC k_X2_107 dX2_count_52 h (fun v5 _ h => ?_)
      exact J_iret hC dX2_count_55 (by have h9 := Sum.inr.inj (Option.some.inj h); subst h9; rfl) (Nat.le_of_ble_eq_true rfl) (Nat.le_of_ble_eq_true rfl)
    · refine ite_c h (fun c1 h => ?_) (fun c1 h => ?_)
      · refine J_tabIn (tgt := 56) (off := 49) (k := 1) hC dX2_count_7 c1 (by decide) (by decide) (by decide +kernel) (by decide) ?_
        refine J_aload_n (j := 0) hC dX2_count_56 rfl ?_
        refine J_iconst (v := 1) hC dX2_count_57 (by decide) ?_
        refine ck_c h (fun ho h => ?_)
        refine bnd_c h (fun w6 hw h => ?_)
        refine J_callV (As := [.int 1]) (M' := M) (rv := some (Value.int w6)) (st := []) hC (fun l hl => cX2_rootsOfSign_ok M a0 1 _ hw l hl) vm_X2_rootsOfSign k_X2_185 ho ⟨rfl, rfl⟩ rfl ⟨Nat.le_of_ble_eq_true rfl, Nat.le_of_ble_eq_true rfl⟩ (Nat.zero_le _) ⟨Nat.le_of_ble_eq_true rfl, Nat.le_of_ble_eq_true rfl⟩ dX2_count_58 rfl ?_
        exact J_iret hC dX2_count_61 (by have h9 := Sum.inr.inj (Option.some.inj h); subst h9; rfl) (Nat.le_of_ble_eq_true rfl) (Nat.le_of_ble_eq_true rfl)
      · refine ite_c h (fun c2 h => ?_) (fun c2 h => ?_)
        · refine J_tabIn (tgt := 62) (off := 55) (k := 2) hC dX2_count_7 c2 (by decide) (by decide) (by decide +kernel) (by decide) ?_
          refine J_aload_n (j := 0) hC dX2_count_62 rfl ?_
          refine J_iconst (v := (-1)) hC dX2_count_63 (by decide) ?_
          refine ck_c h (fun ho h => ?_)
          refine bnd_c h (fun w7 hw h => ?_)
          refine J_callV (As := [.int (-1)]) (M' := M) (rv := some (Value.int w7)) (st := []) hC (fun l hl => cX2_rootsOfSign_ok M a0 (-1) _ hw l hl) vm_X2_rootsOfSign k_X2_185 ho ⟨rfl, rfl⟩ rfl ⟨Nat.le_of_ble_eq_true rfl, Nat.le_of_ble_eq_true rfl⟩ (Nat.zero_le _) ⟨Nat.le_of_ble_eq_true rfl, Nat.le_of_ble_eq_true rfl⟩ dX2_count_64 rfl ?_
          exact J_iret hC dX2_count_67 (by have h9 := Sum.inr.inj (Option.some.inj h); subst h9; rfl) (Nat.le_of_ble_eq_true rfl) (Nat.le_of_ble_eq_true rfl)
        · refine ite_c h (fun c3 h => ?_) (fun c3 h => ?_)
          · refine J_tabIn (tgt := 68) (off := 61) (k := 3) hC dX2_count_7 c3 (by decide) (by decide) (by decide +kernel) (by decide) ?_
            refine J_aload_n (j := 0) hC dX2_count_68 rfl ?_
            refine J_iconst (v := 0) hC dX2_count_69 (by decide) ?_
            refine ck_c h (fun ho h => ?_)
            refine bnd_c h (fun w8 hw h => ?_)
            refine J_callV (As := [.int 0]) (M' := M) (rv := some (Value.int w8)) (st := []) hC (fun l hl => cX2_rootsOfSign_ok M a0 0 _ hw l hl) vm_X2_rootsOfSign k_X2_185 ho ⟨rfl, rfl⟩ rfl ⟨Nat.le_of_ble_eq_true rfl, Nat.le_of_ble_eq_true rfl⟩ (Nat.zero_le _) ⟨Nat.le_of_ble_eq_true rfl, Nat.le_of_ble_eq_true rfl⟩ dX2_count_70 rfl ?_
            exact J_iret hC dX2_count_73 (by have h9 := Sum.inr.inj (Option.some.inj h); subst h9; rfl) (Nat.le_of_ble_eq_true rfl) (Nat.le_of_ble_eq_true rfl)
          · refine ite_c h (fun c4 h => ?_) (fun c4 h => ?_)
            · refine J_tabIn (tgt := 74) (off := 67) (k := 4) hC dX2_count_7 c4 (by decide) (by decide) (by decide +kernel) (by decide) ?_
              refine J_aload_n (j := 0) hC dX2_count_74 rfl ?_
              refine J_g2_0 hC k_X2_12 dX2_count_75 h (fun v9 _ h => ?_)
              refine J_g1_3 hC k_X2_97 dX2_count_78 h (fun v10 _ h => ?_)
              exact J_iret hC dX2_count_81 (by have h9 := Sum.inr.inj (Option.some.inj h); subst h9; rfl) (Nat.le_of_ble_eq_true rfl) (Nat.le_of_ble_eq_true rfl)
            · refine ite_c h (fun c5 h => ?_) (fun c5 h => ?_)
              · refine J_tabIn (tgt := 82) (off := 75) (k := 5) hC dX2_count_7 c5 (by decide) (by decide) (by decide +kernel) (by decide) ?_
                refine J_aload_n (j := 0) hC dX2_count_82 rfl ?_
                refine J_g2_0 hC k_X2_12 dX2_count_83 h (fun v11 _ h => ?_)
                refine J_g1_4 hC k_X2_77 dX2_count_86 h (fun v12 _ h => ?_)
                exact J_iret hC dX2_count_89 (by have h9 := Sum.inr.inj (Option.some.inj h); subst h9; rfl) (Nat.le_of_ble_eq_true rfl) (Nat.le_of_ble_eq_true rfl)
              · refine ite_c h (fun c6 h => ?_) (fun c6 h => ?_)
                · refine J_tabIn (tgt := 90) (off := 83) (k := 6) hC dX2_count_7 c6 (by decide) (by decide) (by decide +kernel) (by decide) ?_
                  refine J_aload_n (j := 0) hC dX2_count_90 rfl ?_
                  refine ck_c h (fun ho h => ?_)
                  refine bnd_c h (fun w13 hw h => ?_)
                  refine J_callV (As := []) (M' := M) (rv := some (Value.int w13)) (st := []) hC (fun l hl => cX2_withRootOne_ok M a0 _ hw l hl) vm_X2_withRootOne k_X2_188 ho ⟨rfl, rfl⟩ rfl ⟨Nat.le_of_ble_eq_true rfl, Nat.le_of_ble_eq_true rfl⟩ (Nat.zero_le _) ⟨Nat.le_of_ble_eq_true rfl, Nat.le_of_ble_eq_true rfl⟩ dX2_count_91 rfl ?_
                  exact J_iret hC dX2_count_94 (by have h9 := Sum.inr.inj (Option.some.inj h); subst h9; rfl) (Nat.le_of_ble_eq_true rfl) (Nat.le_of_ble_eq_true rfl)
                · have hd9 : a1.toInt < 0 ∨ 6 < a1.toInt := by
                    have e0 := ne_toInt c0
                    have e1 := ne_toInt c1
                    have e2 := ne_toInt c2
                    have e3 := ne_toInt c3
                    have e4 := ne_toInt c4
                    have e5 := ne_toInt c5
                    have e6 := ne_toInt c6
                    skip
                    have f0 : (0 : Int32).toInt = 0 := by decide
                    have f1 : (1 : Int32).toInt = 1 := by decide
                    have f2 : (2 : Int32).toInt = 2 := by decide
                    have f3 : (3 : Int32).toInt = 3 := by decide
                    have f4 : (4 : Int32).toInt = 4 := by decide
                    have f5 : (5 : Int32).toInt = 5 := by decide
                    have f6 : (6 : Int32).toInt = 6 := by decide
                    omega
                  refine J_tableOut (tgt := 95) hC dX2_count_7 hd9 (by decide) ?_
                  refine J_aload_n (j := 0) hC dX2_count_95 rfl ?_
                  refine J_g2_2 hC k_X2_20 dX2_count_96 h (fun v3 _ h => ?_)
                  exact J_iret hC dX2_count_99 (by have h9 := Sum.inr.inj (Option.some.inj h); subst h9; rfl) (Nat.le_of_ble_eq_true rfl) (Nat.le_of_ble_eq_true rfl)
abbrev rm_X2_shareOf : Room := { frames := 3, cells := 0, slots := 0, locals := 67 }

set_option maxHeartbeats 4000000 in
set_option maxRecDepth 100000 in
theorem cX2_shareOf_ok (M : Mem) (a0 : Option Nat) (r0 : UInt64) (h : fX2_shareOf M a0 = some r0) : ∀ l : Launch, l.stackTraces = false → Con false l yX2_shareOf cX2_shareOf 3 (some .double) rm_X2_shareOf [rf a0] M (M, Sum.inr (some (Value.double r0))) := by
  intro l hst
  refine Con.enter hst (own := RX2) (by decide +kernel) rfl (by exact Nat.le_of_ble_eq_true rfl) (lv0 := [(0, rf a0)]) (rfl) (fun C hC hin => ?_)
  unfold fX2_shareOf at h
  refine J_aload_n (j := 0) hC dX2_shareOf_0 rfl ?_
  refine bnd_c h (fun w1 hw h => ?_)
  refine J_callS (As := [rf a0]) (M' := M) (rv := some (Value.int w1)) (st := []) hC (fun l hl => cX2_degreeOf_ok M a0 _ hw l hl) sm_X2_degreeOf k_X2_80 rfl ⟨Nat.le_of_ble_eq_true rfl, Nat.le_of_ble_eq_true rfl⟩ (Nat.zero_le _) ⟨Nat.le_of_ble_eq_true rfl, Nat.le_of_ble_eq_true rfl⟩ dX2_shareOf_1 rfl ?_
  refine J_istore_n (i := 1) (lv' := [(1, .int w1), (0, rf a0)]) rfl hC dX2_shareOf_4 (by decide) rfl ?_
  refine J_iload_n (j := 0) hC dX2_shareOf_5 rfl ?_
  refine J_if_ne (tgt := 11) hC dX2_shareOf_6 (by decide) (fun c2 => ?_) (fun c2 => ?_)
  · have h := ite_f c2 h
    refine J_aload_n (j := 1) hC dX2_shareOf_11 rfl ?_
    refine J_iconst (v := 1) hC dX2_shareOf_12 (by decide) ?_
    refine bnd_c h (fun w3 hw h => ?_)
    refine J_callS (As := [rf a0, .int 1]) (M' := M) (rv := some (Value.int w3)) (st := []) hC (fun l hl => cX2_countedTimes_ok M a0 1 _ hw l hl) sm_X2_countedTimes k_X2_168 rfl ⟨Nat.le_of_ble_eq_true rfl, Nat.le_of_ble_eq_true rfl⟩ (Nat.zero_le _) ⟨Nat.le_of_ble_eq_true rfl, Nat.le_of_ble_eq_true rfl⟩ dX2_shareOf_13 rfl ?_
    refine J_aload_n (j := 1) hC dX2_shareOf_16 rfl ?_
    refine J_iconst (v := (-1)) hC dX2_shareOf_17 (by decide) ?_
    refine bnd_c h (fun w4 hw h => ?_)
    refine J_callS (As := [rf a0, .int (-1)]) (M' := M) (rv := some (Value.int w4)) (st := [.int w3]) hC (fun l hl => cX2_countedTimes_ok M a0 (-1) _ hw l hl) sm_X2_countedTimes k_X2_168 rfl ⟨Nat.le_of_ble_eq_true rfl, Nat.le_of_ble_eq_true rfl⟩ (Nat.le_of_ble_eq_true rfl) ⟨Nat.le_of_ble_eq_true rfl, Nat.le_of_ble_eq_true rfl⟩ dX2_shareOf_18 rfl ?_
    refine J_iadd hC dX2_shareOf_21 ?_
    refine J_aload_n (j := 1) hC dX2_shareOf_22 rfl ?_
    refine J_iconst (v := 0) hC dX2_shareOf_23 (by decide) ?_
    refine bnd_c h (fun w5 hw h => ?_)
    refine J_callS (As := [rf a0, .int 0]) (M' := M) (rv := some (Value.int w5)) (st := [.int (w3 + w4)]) hC (fun l hl => cX2_countedTimes_ok M a0 0 _ hw l hl) sm_X2_countedTimes k_X2_168 rfl ⟨Nat.le_of_ble_eq_true rfl, Nat.le_of_ble_eq_true rfl⟩ (Nat.le_of_ble_eq_true rfl) ⟨Nat.le_of_ble_eq_true rfl, Nat.le_of_ble_eq_true rfl⟩ dX2_shareOf_24 rfl ?_
    refine J_iadd hC dX2_shareOf_27 ?_
    refine J_istore_n (i := 2) (lv' := [(2, .int ((w3 + w4) + w5)), (1, .int w1), (0, rf a0)]) rfl hC dX2_shareOf_28 (by decide) rfl ?_
    refine J_iload_n (j := 0) hC dX2_shareOf_29 rfl ?_
    refine J_i2d hC dX2_shareOf_30 ?_
    refine J_iload_n (j := 1) hC dX2_shareOf_31 rfl ?_
    refine J_i2d hC dX2_shareOf_32 ?_
    refine chk_c h (fun hn h => ?_)
    refine J_ddiv hC dX2_shareOf_33 (n64_of hn) ?_
    exact J_dret hC dX2_shareOf_34 (by have h9 := Option.some.inj h; subst h9; rfl) (Nat.le_of_ble_eq_true rfl) (Nat.le_of_ble_eq_true rfl)
  · have h := ite_t c2 h
    refine J_dconst1 hC dX2_shareOf_9 ?_
    exact J_dret hC dX2_shareOf_10 (by have h9 := Option.some.inj h; subst h9; rfl) (Nat.le_of_ble_eq_true rfl) (Nat.le_of_ble_eq_true rfl)
abbrev rm_X2_takenShare : Room := { frames := 7, cells := 1, slots := 6, locals := 110 }

set_option maxHeartbeats 4000000 in
set_option maxRecDepth 100000 in
theorem cX2_takenShare_ok (M : Mem) (a0 : Option Nat) (a1 : Int32) (r0 : String ⊕ UInt64) (h : fX2_takenShare M a0 a1 = some r0) : ∀ l : Launch, l.stackTraces = false → Con true l yX2_takenShare cX2_takenShare 2 (some .double) rm_X2_takenShare [rf a0, .int a1] M (M, mapR (fun v => some (Value.double v)) r0) := by
  intro l hst
  refine Con.enterX hst (own := RX2) (by decide +kernel) rfl (by exact Nat.le_of_ble_eq_true rfl) (lv0 := [(0, rf a0), (1, .int a1)]) (rfl) (fun C hC => ?_)
  unfold fX2_takenShare at h
  refine J_iload_n (j := 1) hC dX2_takenShare_0 rfl ?_
  refine bnd_c h (fun w1 hw h => ?_)
  refine thrE_c h (fun E hE h => ?_) (fun v2 hv h => ?_)
  · exact J_thrS (E := E) (As := [.int a1]) (M' := M) (st := []) hC (fun l hl => by have h9 := cX2_checkNumber_ok M a1 _ hw l hl; rw [hE] at h9; exact h9) sm_X2_checkNumber k_X2_56 rfl ⟨Nat.le_of_ble_eq_true rfl, Nat.le_of_ble_eq_true rfl⟩ (Nat.zero_le _) ⟨Nat.le_of_ble_eq_true rfl, Nat.le_of_ble_eq_true rfl⟩ dX2_takenShare_1 rfl (by have h9 := Option.some.inj h; subst h9; rfl)
  · refine J_callSX (As := [.int a1]) (M' := M) (rv := none) (st := []) hC (fun l hl => by have h9 := cX2_checkNumber_ok M a1 _ hw l hl; rw [hv] at h9; exact h9) sm_X2_checkNumber k_X2_56 rfl ⟨Nat.le_of_ble_eq_true rfl, Nat.le_of_ble_eq_true rfl⟩ (Nat.zero_le _) ⟨Nat.le_of_ble_eq_true rfl, Nat.le_of_ble_eq_true rfl⟩ dX2_takenShare_1 rfl ?_
    refine J_aload_n (j := 0) hC dX2_takenShare_4 rfl ?_
    refine J_g2_0 hC k_X2_12 dX2_takenShare_5 h (fun v3 _ h => ?_)
    refine J_g1_0 hC k_X2_69 dX2_takenShare_8 h (fun v4 _ h => ?_)
    refine J_iload_n (j := 1) hC dX2_takenShare_11 rfl ?_
    refine J_aald9 hC dX2_takenShare_12 h (fun v5 _ h => ?_)
    refine bnd_c h (fun w6 hw h => ?_)
    refine J_callS (As := [rf v5]) (M' := M) (rv := some (Value.double w6)) (st := []) hC (fun l hl => cX2_shareOf_ok M v5 _ hw l hl) sm_X2_shareOf k_X2_191 rfl ⟨Nat.le_of_ble_eq_true rfl, Nat.le_of_ble_eq_true rfl⟩ (Nat.zero_le _) ⟨Nat.le_of_ble_eq_true rfl, Nat.le_of_ble_eq_true rfl⟩ dX2_takenShare_13 rfl ?_
    exact J_dret hC dX2_takenShare_16 (by have h9 := Option.some.inj h; subst h9; rfl) (Nat.le_of_ble_eq_true rfl) (Nat.le_of_ble_eq_true rfl)
abbrev rm_X2_mixed : Room := { frames := 0, cells := 0, slots := 0, locals := 0 }

set_option maxHeartbeats 4000000 in
set_option maxRecDepth 100000 in
theorem cX2_mixed_ok (M : Mem) (a0 : Int64) (a2 : Int64) (r0 : Int64) (h : fX2_mixed M a0 a2 = some r0) : ∀ l : Launch, l.stackTraces = false → Con false l yX2_mixed cX2_mixed 4 (some .long) rm_X2_mixed [.long a0, .long a2] M (M, Sum.inr (some (Value.long r0))) := by
  intro l hst
  refine Con.enter hst (own := RX2) (by decide +kernel) rfl (by exact Nat.le_of_ble_eq_true rfl) (lv0 := [(0, .long a0), (2, .long a2)]) (rfl) (fun C hC hin => ?_)
  unfold fX2_mixed at h
  refine J_ldc2 (v := 31) hC k_X2_288 dX2_mixed_0 ?_
  refine J_lload_n (j := 0) hC dX2_mixed_3 rfl ?_
  refine J_lmul hC dX2_mixed_4 ?_
  refine J_lload_n (j := 1) hC dX2_mixed_5 rfl ?_
  refine J_ladd hC dX2_mixed_6 ?_
  exact J_lret hC dX2_mixed_7 (by have h9 := Option.some.inj h; subst h9; rfl) (Nat.le_of_ble_eq_true rfl) (Nat.le_of_ble_eq_true rfl)
abbrev rm_X2_bitsOf : Room := { frames := 0, cells := 0, slots := 0, locals := 0 }

set_option maxHeartbeats 4000000 in
set_option maxRecDepth 100000 in
theorem tX2_bitsOf_18 {C : JC} {r0 : Int64} (M : Mem) (x0 : UInt64) (hC : Ok C false cX2_bitsOf 8 rm_X2_bitsOf (some .long) RX2 (M, Sum.inr (some (Value.long r0))))  (k50 : UInt64 → Int64 → Int32 → Option (Int64)) (hk50 : ∀ (x2 : UInt64) (x4 : Int64) (x6 : Int32), k50 x2 x4 x6 = some r0 → J C 0 0 M 50 [(0, .double x0), (2, .double x2), (4, .long x4), (6, .int x6)] []) : ∀ (n : Nat) (x2 : UInt64) (x4 : Int64) (x6 : Int32), fX2_bitsOf_18 M x0 k50 n x2 x4 x6 = some r0 → J C 0 0 M 18 [(0, .double x0), (2, .double x2), (4, .long x4), (6, .int x6)] [] := by
  intro n
  induction n with
  | zero => intro x2 x4 x6 h; have h : none = some r0 := h; cases h
  | succ n ih =>
    intro x2 x4 x6 h
    rw [fX2_bitsOf_18] at h
    refine J_iload (j := 3) hC dX2_bitsOf_18 rfl ?_
    refine J_sipush (v := 1023) hC dX2_bitsOf_20 (by decide) ?_
    refine J_icmp_ge (tgt := 50) hC dX2_bitsOf_23 (by decide) (fun c2 => ?_) (fun c2 => ?_)
    · have h := ite_t c2 h
      refine J_sub [0, 1, 2, 3] rfl ?_
      exact hk50 x2 x4 x6 h
    · have h := ite_f c2 h
      refine J_dload_n (j := 1) hC dX2_bitsOf_26 rfl ?_
      refine J_dconst1 hC dX2_bitsOf_27 ?_
      refine J_dcmp hC dX2_bitsOf_28 ?_
      refine J_if_ge (tgt := 50) hC dX2_bitsOf_29 (by decide) (fun c3 => ?_) (fun c3 => ?_)
      · have h := ite_t c3 h
        refine J_sub [0, 1, 2, 3] rfl ?_
        exact hk50 x2 x4 x6 h
      · have h := ite_f c3 h
        refine J_dload_n (j := 1) hC dX2_bitsOf_32 rfl ?_
        refine J_ldc2d (v := 4611686018427387904) hC k_X2_296 dX2_bitsOf_33 ?_
        refine chk_c h (fun hn h => ?_)
        refine J_dmul hC dX2_bitsOf_36 (n64_of hn) ?_
        refine J_dstore_n (i := 2) (lv' := [(2, .double (FP.dmul x2 (4611686018427387904 : UInt64))), (0, .double x0), (4, .long x4), (6, .int x6)]) rfl hC dX2_bitsOf_37 (by decide) rfl ?_
        refine J_lload (j := 2) hC dX2_bitsOf_38 rfl ?_
        refine J_lconst (v := 1) hC dX2_bitsOf_40 (by decide) ?_
        refine J_lsub hC dX2_bitsOf_41 ?_
        refine J_lstore (lv' := [(4, .long (x4 - 1)), (2, .double (FP.dmul x2 (4611686018427387904 : UInt64))), (0, .double x0), (6, .int x6)]) hC dX2_bitsOf_42 (by decide) rfl ?_
        refine J_inc (j := 3) (k := 1) (lv' := [(6, .int (x6 + 1)), (4, .long (x4 - 1)), (2, .double (FP.dmul x2 (4611686018427387904 : UInt64))), (0, .double x0)]) hC dX2_bitsOf_44 (by decide) rfl (by decide) rfl ?_
        refine J_goto (tgt := 18) hC dX2_bitsOf_47 (by decide) ?_
        refine J_sub [3, 2, 1, 0] rfl ?_
        exact ih (FP.dmul x2 (4611686018427387904 : UInt64)) (x4 - 1) (x6 + 1) h
set_option maxHeartbeats 4000000 in
set_option maxRecDepth 100000 in
theorem cX2_bitsOf_ok (M : Mem) (a0 : UInt64) (r0 : Int64) (h : fX2_bitsOf M a0 = some r0) : ∀ l : Launch, l.stackTraces = false → Con false l yX2_bitsOf cX2_bitsOf 8 (some .long) rm_X2_bitsOf [.double a0] M (M, Sum.inr (some (Value.long r0))) := by
  intro l hst
  refine Con.enter hst (own := RX2) (by decide +kernel) rfl (by exact Nat.le_of_ble_eq_true rfl) (lv0 := [(0, .double a0)]) (rfl) (fun C hC hin => ?_)
  unfold fX2_bitsOf at h
  refine J_dload_n (j := 0) hC dX2_bitsOf_0 rfl ?_
  refine J_dconst0 hC dX2_bitsOf_1 ?_
  refine J_dcmp hC dX2_bitsOf_2 ?_
  refine J_if_gt (tgt := 8) hC dX2_bitsOf_3 (by decide) (fun c1 => ?_) (fun c1 => ?_)
  · have h := ite_t c1 h
    refine J_dload_n (j := 0) hC dX2_bitsOf_8 rfl ?_
    refine J_dstore_n (i := 2) (lv' := [(2, .double a0), (0, .double a0)]) rfl hC dX2_bitsOf_9 (by decide) rfl ?_
    refine J_ldc2 (v := 1023) hC k_X2_294 dX2_bitsOf_10 ?_
    refine J_lstore (lv' := [(4, .long 1023), (2, .double a0), (0, .double a0)]) hC dX2_bitsOf_13 (by decide) rfl ?_
    refine J_iconst (v := 0) hC dX2_bitsOf_15 (by decide) ?_
    refine J_istore (lv' := [(6, .int 0), (4, .long 1023), (2, .double a0), (0, .double a0)]) hC dX2_bitsOf_16 (by decide) rfl ?_
    refine J_sub [3, 2, 1, 0] rfl ?_
    refine tX2_bitsOf_18 M a0 hC _ (fun x4 x5 x6 h => ?_) FU a0 1023 0 h
    · refine J_dload_n (j := 1) hC dX2_bitsOf_50 rfl ?_
      refine J_dconst1 hC dX2_bitsOf_51 ?_
      refine chk_c h (fun hn h => ?_)
      refine J_dsub hC dX2_bitsOf_52 (n64_of hn) ?_
      refine J_ldc2d (v := 4841369599423283200) hC k_X2_298 dX2_bitsOf_53 ?_
      refine chk_c h (fun hn h => ?_)
      refine J_dmul hC dX2_bitsOf_56 (n64_of hn) ?_
      refine J_d2l hC dX2_bitsOf_57 ?_
      refine J_lstore (lv' := [(6, .long (FP.d2l (FP.dmul (FP.dsub x4 FP.dconst1) (4841369599423283200 : UInt64)))), (0, .double a0), (2, .double x4), (4, .long x5)]) hC dX2_bitsOf_58 (by decide) rfl ?_
      refine J_lload (j := 3) hC dX2_bitsOf_60 rfl ?_
      refine J_bipush (v := 52) hC dX2_bitsOf_62 (by decide) ?_
      refine J_lshl hC dX2_bitsOf_64 ?_
      refine J_lload (j := 0) hC dX2_bitsOf_65 rfl ?_
      refine J_ladd hC dX2_bitsOf_67 ?_
      exact J_lret hC dX2_bitsOf_68 (by have h9 := Option.some.inj h; subst h9; rfl) (Nat.le_of_ble_eq_true rfl) (Nat.le_of_ble_eq_true rfl)
  · have h := ite_f c1 h
    refine J_lconst (v := 0) hC dX2_bitsOf_6 (by decide) ?_
    exact J_lret hC dX2_bitsOf_7 (by have h9 := Option.some.inj h; subst h9; rfl) (Nat.le_of_ble_eq_true rfl) (Nat.le_of_ble_eq_true rfl)
abbrev rm_X2_mixedPolynomial : Room := { frames := 17, cells := 0, slots := 0, locals := 463 }

set_option maxHeartbeats 4000000 in
set_option maxRecDepth 100000 in
theorem tX2_mixedPolynomial_51 {C : JC} {r0 : Mem × Int64} (x0 : Option Nat) (x1 : Int64) (x3 : Option Nat) (hC : Ok C false cX2_mixedPolynomial 9 rm_X2_mixedPolynomial (some .long) RX2 (r0.1, Sum.inr (some (Value.long r0.2))))  (k76 : Mem → Int64 → Int32 → Option (Mem × Int64)) (hk76 : ∀ (M : Mem) (x4 : Int64) (x6 : Int32), k76 M x4 x6 = some r0 → J C 0 0 M 76 [(0, rf x0), (1, .long x1), (3, rf x3), (4, .long x4), (6, .int x6)] []) : ∀ (n : Nat) (M : Mem) (x4 : Int64) (x6 : Int32), fX2_mixedPolynomial_51 x0 x1 x3 k76 n M x4 x6 = some r0 → J C 0 0 M 51 [(0, rf x0), (1, .long x1), (3, rf x3), (4, .long x4), (6, .int x6)] [] := by
  intro n
  induction n with
  | zero => intro M x4 x6 h; have h : none = some r0 := h; cases h
  | succ n ih =>
    intro M x4 x6 h
    rw [fX2_mixedPolynomial_51] at h
    refine J_iload (j := 4) hC dX2_mixedPolynomial_51 rfl ?_
    refine J_bipush (v := 9) hC dX2_mixedPolynomial_53 (by decide) ?_
    refine J_icmp_ge (tgt := 76) hC dX2_mixedPolynomial_55 (by decide) (fun c9 => ?_) (fun c9 => ?_)
    · have h := ite_t c9 h
      refine J_sub [0, 1, 2, 3, 4] rfl ?_
      exact hk76 M x4 x6 h
    · have h := ite_f c9 h
      refine J_lload (j := 3) hC dX2_mixedPolynomial_58 rfl ?_
      refine J_aload_n (j := 2) hC dX2_mixedPolynomial_60 rfl ?_
      refine J_iload (j := 4) hC dX2_mixedPolynomial_61 rfl ?_
      refine J_iald hC dX2_mixedPolynomial_63 h (fun v10 _ h => ?_)
      refine J_i2l hC dX2_mixedPolynomial_64 ?_
      refine bnd_c h (fun w11 hw h => ?_)
      refine J_callS (As := [.long x4, .long v10.toInt64]) (M' := M) (rv := some (Value.long w11)) (st := []) hC (fun l hl => cX2_mixed_ok M x4 v10.toInt64 _ hw l hl) sm_X2_mixed k_X2_200 rfl ⟨Nat.le_of_ble_eq_true rfl, Nat.le_of_ble_eq_true rfl⟩ (Nat.zero_le _) ⟨Nat.le_of_ble_eq_true rfl, Nat.le_of_ble_eq_true rfl⟩ dX2_mixedPolynomial_65 rfl ?_
      refine J_lstore (lv' := [(4, .long w11), (0, rf x0), (1, .long x1), (3, rf x3), (6, .int x6)]) hC dX2_mixedPolynomial_68 (by decide) rfl ?_
      refine J_inc (j := 4) (k := 1) (lv' := [(6, .int (x6 + 1)), (4, .long w11), (0, rf x0), (1, .long x1), (3, rf x3)]) hC dX2_mixedPolynomial_70 (by decide) rfl (by decide) rfl ?_
      refine J_goto (tgt := 51) hC dX2_mixedPolynomial_73 (by decide) ?_
      refine J_sub [2, 3, 4, 1, 0] rfl ?_
      exact ih M w11 (x6 + 1) h
