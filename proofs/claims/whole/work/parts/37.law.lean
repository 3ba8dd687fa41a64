theorem law_k {L k : Nat} (hL : L ≤ 2560) (hk : k ≤ 513) (c : ¬ Int32.ofNat L - 5 < nI (5 * k)) : k < 513 := by
  have h1 := Int32.not_lt.mp c
  have h2 := Int32.le_iff_toInt_le.mp h1
  rw [nI_toInt (by omega), show Int32.ofNat L - 5 = nI L - nI 5 from rfl, pk_sub_toInt (by omega) (by omega)] at h2
  omega
set_option maxHeartbeats 4000000 in
set_option maxRecDepth 100000 in
theorem tL_case0 {C : JC} {r0 : Mem × Int32} {b : Nat} (xs : Nat → Int32) (L : Nat) (x1 x2 x3 x4 : Option Nat) (x5 : Int32) (kn : Mem → Option (Mem × Int32)) (hC : Ok C false cL_law 9 room_1 (some .boolean) RL (r0.1, Sum.inr (some (Value.int r0.2)))) (hSc : ScOK C b L xs) {ce sl : Nat} (hce : ce + 8 ≤ 601024) (hsl : sl + 48 ≤ 7293034) (hk : ∀ M : Mem, kn M = some r0 → J C (ce + 8) (sl + 48) M 1589 [(0, .ref b), (1, rf x1), (2, rf x2), (3, rf x3), (4, rf x4), (5, .int x5)] []) (M : Mem) (h : fL_case0 xs L x1 x2 x3 x4 x5 kn M = some r0) : J C ce sl M 160 [(0, .ref b), (1, rf x1), (2, rf x2), (3, rf x3), (4, rf x4), (5, .int x5)] [] := by
  unfold fL_case0 at h
  refine J_aload_n (j := 1) hC dL_law_160 rfl ?_
  refine J_aloadQ_n (j := 0) hC dL_law_161 rfl ?_
  refine J_iload (j := 5) hC dL_law_162 rfl ?_
  refine J_iconst (v := 1) hC dL_law_164 (by decide) ?_
  refine J_iadd hC dL_law_165 ?_
  refine J_sld hC hSc dL_law_166 h (fun v1 _ h => ?_)
  refine J_aloadQ_n (j := 0) hC dL_law_167 rfl ?_
  refine J_iload (j := 5) hC dL_law_168 rfl ?_
  refine J_iconst (v := 2) hC dL_law_170 (by decide) ?_
  refine J_iadd hC dL_law_171 ?_
  refine J_sld hC hSc dL_law_172 h (fun v2 _ h => ?_)
  refine J_aloadQ_n (j := 0) hC dL_law_173 rfl ?_
  refine J_iload (j := 5) hC dL_law_174 rfl ?_
  refine J_iconst (v := 3) hC dL_law_176 (by decide) ?_
  refine J_iadd hC dL_law_177 ?_
  refine J_sld hC hSc dL_law_178 h (fun v3 _ h => ?_)
  refine J_aload_n (j := 3) hC dL_law_179 rfl ?_
  refine bnd_c h (fun w4 hw h => ?_)
  refine J_callSW (As := [rf x1, .int v1, .int v2, .int v3, rf x3]) (M' := w4.1) (rv := some (Value.int w4.2)) (st := []) hC (fun l hl => cL_put_ok M x1 v1 v2 v3 x3 _ hw l hl) sm_L_put k_L_89 rfl ⟨Nat.le_of_ble_eq_true rfl, Nat.le_of_ble_eq_true rfl⟩ (Nat.zero_le _) ⟨show ce + 3 ≤ 601024 by omega, show sl + 18 ≤ 7293034 by omega⟩ dL_law_180 rfl ?_
  refine J_istore (lv' := [(6, .int w4.2), (0, .ref b), (1, rf x1), (2, rf x2), (3, rf x3), (4, rf x4), (5, .int x5)]) hC dL_law_183 (by decide) rfl ?_
  refine J_aload_n (j := 3) hC dL_law_185 rfl ?_
  refine J_aloadQ_n (j := 1) hC dL_law_186 rfl ?_
  refine J_iload (j := 6) hC dL_law_187 rfl ?_
  refine J_iconst (v := 1) hC dL_law_189 (by decide) ?_
  refine J_iadd hC dL_law_190 ?_
  refine J_sld hC hSc dL_law_191 h (fun v5 _ h => ?_)
  refine J_aloadQ_n (j := 1) hC dL_law_192 rfl ?_
  refine J_iload (j := 6) hC dL_law_193 rfl ?_
  refine J_iconst (v := 2) hC dL_law_195 (by decide) ?_
  refine J_iadd hC dL_law_196 ?_
  refine J_sld hC hSc dL_law_197 h (fun v6 _ h => ?_)
  refine J_aloadQ_n (j := 1) hC dL_law_198 rfl ?_
  refine J_iload (j := 6) hC dL_law_199 rfl ?_
  refine J_iconst (v := 3) hC dL_law_201 (by decide) ?_
  refine J_iadd hC dL_law_202 ?_
  refine J_sld hC hSc dL_law_203 h (fun v7 _ h => ?_)
  refine ck_c h (fun ho h => ?_)
  refine bnd_c h (fun w8 hw h => ?_)
  refine J_callV (As := [.int v5, .int v6, .int v7]) (M' := w8.1) (rv := some (Value.int w8.2)) (st := []) hC (fun l hl => cX3_put_ok w4.1 x2 v5 v6 v7 _ hw l hl) vm_X3_put k_L_94 ho ⟨rfl, rfl⟩ rfl ⟨Nat.le_of_ble_eq_true rfl, Nat.le_of_ble_eq_true rfl⟩ (Nat.zero_le _) ⟨show ce + 3 + 0 ≤ 601024 by omega, show sl + 18 + 0 ≤ 7293034 by omega⟩ dL_law_204 rfl ?_
  refine J_istore (lv' := [(7, .int w8.2), (6, .int w4.2), (0, .ref b), (1, rf x1), (2, rf x2), (3, rf x3), (4, rf x4), (5, .int x5)]) hC dL_law_207 (by decide) rfl ?_
  refine J_aload_n (j := 4) hC dL_law_209 rfl ?_
  refine ck_c h (fun ho h => ?_)
  refine bnd_c h (fun w9 hw h => ?_)
  refine J_callV (As := []) (M' := w8.1) (rv := some (Value.int w9)) (st := []) hC (fun l hl => cX3_thrown_ok w8.1 x2 _ hw l hl) vm_X3_thrown k_L_95 ho ⟨rfl, rfl⟩ rfl ⟨Nat.le_of_ble_eq_true rfl, Nat.le_of_ble_eq_true rfl⟩ (Nat.zero_le _) ⟨show ce + 3 + 0 + 0 ≤ 601024 by omega, show sl + 18 + 0 + 0 ≤ 7293034 by omega⟩ dL_law_210 rfl ?_
  refine J_iload (j := 1) hC dL_law_213 rfl ?_
  refine J_icmp_eq (tgt := 220) hC dL_law_215 (by decide) (fun c10 => ?_) (fun c10 => ?_)
  · have h := ite_t c10 h
    refine J_iload (j := 1) hC dL_law_220 rfl ?_
    refine J_if_ne (tgt := 237) hC dL_law_222 (by decide) (fun c11 => ?_) (fun c11 => ?_)
    · have h := ite_f c11 h
      refine J_goto (tgt := 1589) hC dL_law_237 (by decide) ?_
      refine J_widen (k := ce + 8) (n := sl + 48) (show ce + 3 + 0 + 0 ≤ ce + 8 by omega) (show sl + 18 + 0 + 0 ≤ sl + 48 by omega) ?_
      refine J_sub [2, 3, 4, 5, 6, 7] rfl ?_
      exact hk w8.1 h
    · have h := ite_t c11 h
      refine J_aload_n (j := 5) hC dL_law_225 rfl ?_
      refine J_iconst (v := 0) hC dL_law_226 (by decide) ?_
      refine J_lald hC dL_law_227 h (fun v12 _ h => ?_)
      refine J_iload (j := 0) hC dL_law_228 rfl ?_
      refine J_i2l hC dL_law_230 ?_
      refine J_lcmp hC dL_law_231 ?_
      refine J_if_eq (tgt := 237) hC dL_law_232 (by decide) (fun c13 => ?_) (fun c13 => ?_)
      · have h := ite_t c13 h
        refine J_goto (tgt := 1589) hC dL_law_237 (by decide) ?_
        refine J_widen (k := ce + 8) (n := sl + 48) (show ce + 3 + 0 + 0 ≤ ce + 8 by omega) (show sl + 18 + 0 + 0 ≤ sl + 48 by omega) ?_
        refine J_sub [2, 3, 4, 5, 6, 7] rfl ?_
        exact hk w8.1 h
      · have h := ite_f c13 h
        refine J_iconst (v := 0) hC dL_law_235 (by decide) ?_
        exact J_zret hC dL_law_236 (by decide) (by have h9 := Option.some.inj h; subst h9; rfl) (show ce + 3 + 0 + 0 ≤ 601024 by omega) (show sl + 18 + 0 + 0 ≤ 7293034 by omega)
  · have h := ite_f c10 h
    refine J_iconst (v := 0) hC dL_law_218 (by decide) ?_
    exact J_zret hC dL_law_219 (by decide) (by have h9 := Option.some.inj h; subst h9; rfl) (show ce + 3 + 0 + 0 ≤ 601024 by omega) (show sl + 18 + 0 + 0 ≤ 7293034 by omega)
set_option maxHeartbeats 4000000 in
set_option maxRecDepth 100000 in
theorem tL_case1 {C : JC} {r0 : Mem × Int32} {b : Nat} (xs : Nat → Int32) (L : Nat) (x1 x2 x3 x4 : Option Nat) (x5 : Int32) (kn : Mem → Option (Mem × Int32)) (hC : Ok C false cL_law 9 room_1 (some .boolean) RL (r0.1, Sum.inr (some (Value.int r0.2)))) (hSc : ScOK C b L xs) {ce sl : Nat} (hce : ce + 8 ≤ 601024) (hsl : sl + 48 ≤ 7293034) (hk : ∀ M : Mem, kn M = some r0 → J C (ce + 8) (sl + 48) M 1589 [(0, .ref b), (1, rf x1), (2, rf x2), (3, rf x3), (4, rf x4), (5, .int x5)] []) (M : Mem) (h : fL_case1 xs L x1 x2 x3 x4 x5 kn M = some r0) : J C ce sl M 240 [(0, .ref b), (1, rf x1), (2, rf x2), (3, rf x3), (4, rf x4), (5, .int x5)] [] := by
  unfold fL_case1 at h
  refine J_aload_n (j := 1) hC dL_law_240 rfl ?_
  refine J_aloadQ_n (j := 0) hC dL_law_241 rfl ?_
  refine J_iload (j := 5) hC dL_law_242 rfl ?_
  refine J_iconst (v := 1) hC dL_law_244 (by decide) ?_
  refine J_iadd hC dL_law_245 ?_
  refine J_sld hC hSc dL_law_246 h (fun v14 _ h => ?_)
  refine J_aloadQ_n (j := 0) hC dL_law_247 rfl ?_
  refine J_iload (j := 5) hC dL_law_248 rfl ?_
  refine J_iconst (v := 2) hC dL_law_250 (by decide) ?_
  refine J_iadd hC dL_law_251 ?_
  refine J_sld hC hSc dL_law_252 h (fun v15 _ h => ?_)
  refine J_aload_n (j := 3) hC dL_law_253 rfl ?_
  refine bnd_c h (fun w16 hw h => ?_)
  refine J_callSW (As := [rf x1, .int v14, .int v15, rf x3]) (M' := w16.1) (rv := some (Value.int w16.2)) (st := []) hC (fun l hl => cL_copy_ok M x1 v14 v15 x3 _ hw l hl) sm_L_copy k_L_98 rfl ⟨Nat.le_of_ble_eq_true rfl, Nat.le_of_ble_eq_true rfl⟩ (Nat.zero_le _) ⟨show ce + 2 ≤ 601024 by omega, show sl + 12 ≤ 7293034 by omega⟩ dL_law_254 rfl ?_
  refine J_istore (lv' := [(6, .int w16.2), (0, .ref b), (1, rf x1), (2, rf x2), (3, rf x3), (4, rf x4), (5, .int x5)]) hC dL_law_257 (by decide) rfl ?_
  refine J_aload_n (j := 3) hC dL_law_259 rfl ?_
  refine J_aloadQ_n (j := 1) hC dL_law_260 rfl ?_
  refine J_iload (j := 6) hC dL_law_261 rfl ?_
  refine J_iconst (v := 1) hC dL_law_263 (by decide) ?_
  refine J_iadd hC dL_law_264 ?_
  refine J_sld hC hSc dL_law_265 h (fun v17 _ h => ?_)
  refine J_aloadQ_n (j := 1) hC dL_law_266 rfl ?_
  refine J_iload (j := 6) hC dL_law_267 rfl ?_
  refine J_iconst (v := 2) hC dL_law_269 (by decide) ?_
  refine J_iadd hC dL_law_270 ?_
  refine J_sld hC hSc dL_law_271 h (fun v18 _ h => ?_)
  refine ck_c h (fun ho h => ?_)
  refine bnd_c h (fun w19 hw h => ?_)
  refine J_callV (As := [.int v17, .int v18]) (M' := w19.1) (rv := some (Value.int w19.2)) (st := []) hC (fun l hl => cX3_copy_ok w16.1 x2 v17 v18 _ hw l hl) vm_X3_copy k_L_101 ho ⟨rfl, rfl⟩ rfl ⟨Nat.le_of_ble_eq_true rfl, Nat.le_of_ble_eq_true rfl⟩ (Nat.zero_le _) ⟨show ce + 2 + 0 ≤ 601024 by omega, show sl + 12 + 0 ≤ 7293034 by omega⟩ dL_law_272 rfl ?_
  refine J_istore (lv' := [(7, .int w19.2), (6, .int w16.2), (0, .ref b), (1, rf x1), (2, rf x2), (3, rf x3), (4, rf x4), (5, .int x5)]) hC dL_law_275 (by decide) rfl ?_
  refine J_aload_n (j := 4) hC dL_law_277 rfl ?_
  refine ck_c h (fun ho h => ?_)
  refine bnd_c h (fun w20 hw h => ?_)
  refine J_callV (As := []) (M' := w19.1) (rv := some (Value.int w20)) (st := []) hC (fun l hl => cX3_thrown_ok w19.1 x2 _ hw l hl) vm_X3_thrown k_L_95 ho ⟨rfl, rfl⟩ rfl ⟨Nat.le_of_ble_eq_true rfl, Nat.le_of_ble_eq_true rfl⟩ (Nat.zero_le _) ⟨show ce + 2 + 0 + 0 ≤ 601024 by omega, show sl + 12 + 0 + 0 ≤ 7293034 by omega⟩ dL_law_278 rfl ?_
  refine J_iload (j := 1) hC dL_law_281 rfl ?_
  refine J_icmp_eq (tgt := 288) hC dL_law_283 (by decide) (fun c21 => ?_) (fun c21 => ?_)
  · have h := ite_t c21 h
    refine J_iload (j := 1) hC dL_law_288 rfl ?_
    refine J_if_ne (tgt := 305) hC dL_law_290 (by decide) (fun c22 => ?_) (fun c22 => ?_)
    · have h := ite_f c22 h
      refine J_goto (tgt := 1589) hC dL_law_305 (by decide) ?_
      refine J_widen (k := ce + 8) (n := sl + 48) (show ce + 2 + 0 + 0 ≤ ce + 8 by omega) (show sl + 12 + 0 + 0 ≤ sl + 48 by omega) ?_
      refine J_sub [2, 3, 4, 5, 6, 7] rfl ?_
      exact hk w19.1 h
    · have h := ite_t c22 h
      refine J_aload_n (j := 5) hC dL_law_293 rfl ?_
      refine J_iconst (v := 0) hC dL_law_294 (by decide) ?_
      refine J_lald hC dL_law_295 h (fun v23 _ h => ?_)
      refine J_iload (j := 0) hC dL_law_296 rfl ?_
      refine J_i2l hC dL_law_298 ?_
      refine J_lcmp hC dL_law_299 ?_
      refine J_if_eq (tgt := 305) hC dL_law_300 (by decide) (fun c24 => ?_) (fun c24 => ?_)
      · have h := ite_t c24 h
        refine J_goto (tgt := 1589) hC dL_law_305 (by decide) ?_
        refine J_widen (k := ce + 8) (n := sl + 48) (show ce + 2 + 0 + 0 ≤ ce + 8 by omega) (show sl + 12 + 0 + 0 ≤ sl + 48 by omega) ?_
        refine J_sub [2, 3, 4, 5, 6, 7] rfl ?_
        exact hk w19.1 h
      · have h := ite_f c24 h
        refine J_iconst (v := 0) hC dL_law_303 (by decide) ?_
        exact J_zret hC dL_law_304 (by decide) (by have h9 := Option.some.inj h; subst h9; rfl) (show ce + 2 + 0 + 0 ≤ 601024 by omega) (show sl + 12 + 0 + 0 ≤ 7293034 by omega)
  · have h := ite_f c21 h
    refine J_iconst (v := 0) hC dL_law_286 (by decide) ?_
    exact J_zret hC dL_law_287 (by decide) (by have h9 := Option.some.inj h; subst h9; rfl) (show ce + 2 + 0 + 0 ≤ 601024 by omega) (show sl + 12 + 0 + 0 ≤ 7293034 by omega)
set_option maxHeartbeats 4000000 in
set_option maxRecDepth 100000 in
theorem tL_case2 {C : JC} {r0 : Mem × Int32} {b : Nat} (xs : Nat → Int32) (L : Nat) (x1 x2 x3 x4 : Option Nat) (x5 : Int32) (kn : Mem → Option (Mem × Int32)) (hC : Ok C false cL_law 9 room_1 (some .boolean) RL (r0.1, Sum.inr (some (Value.int r0.2)))) (hSc : ScOK C b L xs) {ce sl : Nat} (hce : ce + 8 ≤ 601024) (hsl : sl + 48 ≤ 7293034) (hk : ∀ M : Mem, kn M = some r0 → J C (ce + 8) (sl + 48) M 1589 [(0, .ref b), (1, rf x1), (2, rf x2), (3, rf x3), (4, rf x4), (5, .int x5)] []) (M : Mem) (h : fL_case2 xs L x1 x2 x3 x4 x5 kn M = some r0) : J C ce sl M 308 [(0, .ref b), (1, rf x1), (2, rf x2), (3, rf x3), (4, rf x4), (5, .int x5)] [] := by
  unfold fL_case2 at h
  refine J_aload_n (j := 1) hC dL_law_308 rfl ?_
  refine J_aloadQ_n (j := 0) hC dL_law_309 rfl ?_
  refine J_iload (j := 5) hC dL_law_310 rfl ?_
  refine J_iconst (v := 1) hC dL_law_312 (by decide) ?_
  refine J_iadd hC dL_law_313 ?_
  refine J_sld hC hSc dL_law_314 h (fun v25 _ h => ?_)
  refine J_aloadQ_n (j := 0) hC dL_law_315 rfl ?_
  refine J_iload (j := 5) hC dL_law_316 rfl ?_
  refine J_iconst (v := 2) hC dL_law_318 (by decide) ?_
  refine J_iadd hC dL_law_319 ?_
  refine J_sld hC hSc dL_law_320 h (fun v26 _ h => ?_)
  refine J_aload_n (j := 3) hC dL_law_321 rfl ?_
  refine bnd_c h (fun w27 hw h => ?_)
  refine J_callSW (As := [rf x1, .int v25, .int v26, rf x3]) (M' := w27.1) (rv := some (Value.int w27.2)) (st := []) hC (fun l hl => cL_divide_ok M x1 v25 v26 x3 _ hw l hl) sm_L_divide k_L_102 rfl ⟨Nat.le_of_ble_eq_true rfl, Nat.le_of_ble_eq_true rfl⟩ (Nat.zero_le _) ⟨show ce + 2 ≤ 601024 by omega, show sl + 12 ≤ 7293034 by omega⟩ dL_law_322 rfl ?_
  refine J_istore (lv' := [(6, .int w27.2), (0, .ref b), (1, rf x1), (2, rf x2), (3, rf x3), (4, rf x4), (5, .int x5)]) hC dL_law_325 (by decide) rfl ?_
  refine J_aload_n (j := 3) hC dL_law_327 rfl ?_
  refine J_aloadQ_n (j := 1) hC dL_law_328 rfl ?_
  refine J_iload (j := 6) hC dL_law_329 rfl ?_
  refine J_iconst (v := 1) hC dL_law_331 (by decide) ?_
  refine J_iadd hC dL_law_332 ?_
  refine J_sld hC hSc dL_law_333 h (fun v28 _ h => ?_)
  refine J_aloadQ_n (j := 1) hC dL_law_334 rfl ?_
  refine J_iload (j := 6) hC dL_law_335 rfl ?_
  refine J_iconst (v := 2) hC dL_law_337 (by decide) ?_
  refine J_iadd hC dL_law_338 ?_
  refine J_sld hC hSc dL_law_339 h (fun v29 _ h => ?_)
  refine ck_c h (fun ho h => ?_)
  refine bnd_c h (fun w30 hw h => ?_)
  refine J_callV (As := [.int v28, .int v29]) (M' := w30.1) (rv := some (Value.int w30.2)) (st := []) hC (fun l hl => cX3_divide_ok w27.1 x2 v28 v29 _ hw l hl) vm_X3_divide k_L_104 ho ⟨rfl, rfl⟩ rfl ⟨Nat.le_of_ble_eq_true rfl, Nat.le_of_ble_eq_true rfl⟩ (Nat.zero_le _) ⟨show ce + 2 + 0 ≤ 601024 by omega, show sl + 12 + 0 ≤ 7293034 by omega⟩ dL_law_340 rfl ?_
  refine J_istore (lv' := [(7, .int w30.2), (6, .int w27.2), (0, .ref b), (1, rf x1), (2, rf x2), (3, rf x3), (4, rf x4), (5, .int x5)]) hC dL_law_343 (by decide) rfl ?_
  refine J_aload_n (j := 4) hC dL_law_345 rfl ?_
  refine ck_c h (fun ho h => ?_)
  refine bnd_c h (fun w31 hw h => ?_)
  refine J_callV (As := []) (M' := w30.1) (rv := some (Value.int w31)) (st := []) hC (fun l hl => cX3_thrown_ok w30.1 x2 _ hw l hl) vm_X3_thrown k_L_95 ho ⟨rfl, rfl⟩ rfl ⟨Nat.le_of_ble_eq_true rfl, Nat.le_of_ble_eq_true rfl⟩ (Nat.zero_le _) ⟨show ce + 2 + 0 + 0 ≤ 601024 by omega, show sl + 12 + 0 + 0 ≤ 7293034 by omega⟩ dL_law_346 rfl ?_
  refine J_iload (j := 1) hC dL_law_349 rfl ?_
  refine J_icmp_eq (tgt := 356) hC dL_law_351 (by decide) (fun c32 => ?_) (fun c32 => ?_)
  · have h := ite_t c32 h
    refine J_iload (j := 1) hC dL_law_356 rfl ?_
    refine J_if_ne (tgt := 373) hC dL_law_358 (by decide) (fun c33 => ?_) (fun c33 => ?_)
    · have h := ite_f c33 h
      refine J_goto (tgt := 1589) hC dL_law_373 (by decide) ?_
      refine J_widen (k := ce + 8) (n := sl + 48) (show ce + 2 + 0 + 0 ≤ ce + 8 by omega) (show sl + 12 + 0 + 0 ≤ sl + 48 by omega) ?_
      refine J_sub [2, 3, 4, 5, 6, 7] rfl ?_
      exact hk w30.1 h
    · have h := ite_t c33 h
      refine J_aload_n (j := 5) hC dL_law_361 rfl ?_
      refine J_iconst (v := 0) hC dL_law_362 (by decide) ?_
      refine J_lald hC dL_law_363 h (fun v34 _ h => ?_)
      refine J_iload (j := 0) hC dL_law_364 rfl ?_
      refine J_i2l hC dL_law_366 ?_
      refine J_lcmp hC dL_law_367 ?_
      refine J_if_eq (tgt := 373) hC dL_law_368 (by decide) (fun c35 => ?_) (fun c35 => ?_)
      · have h := ite_t c35 h
        refine J_goto (tgt := 1589) hC dL_law_373 (by decide) ?_
        refine J_widen (k := ce + 8) (n := sl + 48) (show ce + 2 + 0 + 0 ≤ ce + 8 by omega) (show sl + 12 + 0 + 0 ≤ sl + 48 by omega) ?_
        refine J_sub [2, 3, 4, 5, 6, 7] rfl ?_
        exact hk w30.1 h
      · have h := ite_f c35 h
        refine J_iconst (v := 0) hC dL_law_371 (by decide) ?_
        exact J_zret hC dL_law_372 (by decide) (by have h9 := Option.some.inj h; subst h9; rfl) (show ce + 2 + 0 + 0 ≤ 601024 by omega) (show sl + 12 + 0 + 0 ≤ 7293034 by omega)
  · have h := ite_f c32 h
    refine J_iconst (v := 0) hC dL_law_354 (by decide) ?_
    exact J_zret hC dL_law_355 (by decide) (by have h9 := Option.some.inj h; subst h9; rfl) (show ce + 2 + 0 + 0 ≤ 601024 by omega) (show sl + 12 + 0 + 0 ≤ 7293034 by omega)
set_option maxHeartbeats 4000000 in
set_option maxRecDepth 100000 in
theorem tL_case3 {C : JC} {r0 : Mem × Int32} {b : Nat} (xs : Nat → Int32) (L : Nat) (x1 x2 x3 x4 : Option Nat) (x5 : Int32) (kn : Mem → Option (Mem × Int32)) (hC : Ok C false cL_law 9 room_1 (some .boolean) RL (r0.1, Sum.inr (some (Value.int r0.2)))) (hSc : ScOK C b L xs) {ce sl : Nat} (hce : ce + 8 ≤ 601024) (hsl : sl + 48 ≤ 7293034) (hk : ∀ M : Mem, kn M = some r0 → J C (ce + 8) (sl + 48) M 1589 [(0, .ref b), (1, rf x1), (2, rf x2), (3, rf x3), (4, rf x4), (5, .int x5)] []) (M : Mem) (h : fL_case3 xs L x1 x2 x3 x4 x5 kn M = some r0) : J C ce sl M 376 [(0, .ref b), (1, rf x1), (2, rf x2), (3, rf x3), (4, rf x4), (5, .int x5)] [] := by
  unfold fL_case3 at h
  refine J_aload_n (j := 1) hC dL_law_376 rfl ?_
  refine J_aloadQ_n (j := 0) hC dL_law_377 rfl ?_
  refine J_iload (j := 5) hC dL_law_378 rfl ?_
  refine J_iconst (v := 1) hC dL_law_380 (by decide) ?_
  refine J_iadd hC dL_law_381 ?_
  refine J_sld hC hSc dL_law_382 h (fun v36 _ h => ?_)
  refine J_aload_n (j := 3) hC dL_law_383 rfl ?_
  refine bnd_c h (fun w37 hw h => ?_)
  refine J_callSW (As := [rf x1, .int v36, rf x3]) (M' := w37.1) (rv := some (Value.int w37.2)) (st := []) hC (fun l hl => cL_root_ok M x1 v36 x3 _ hw l hl) sm_L_root k_L_105 rfl ⟨Nat.le_of_ble_eq_true rfl, Nat.le_of_ble_eq_true rfl⟩ (Nat.zero_le _) ⟨show ce + 1 ≤ 601024 by omega, show sl + 6 ≤ 7293034 by omega⟩ dL_law_384 rfl ?_
  refine J_istore (lv' := [(6, .int w37.2), (0, .ref b), (1, rf x1), (2, rf x2), (3, rf x3), (4, rf x4), (5, .int x5)]) hC dL_law_387 (by decide) rfl ?_
  refine J_aload_n (j := 3) hC dL_law_389 rfl ?_
  refine J_aloadQ_n (j := 1) hC dL_law_390 rfl ?_
  refine J_iload (j := 6) hC dL_law_391 rfl ?_
  refine J_iconst (v := 1) hC dL_law_393 (by decide) ?_
  refine J_iadd hC dL_law_394 ?_
  refine J_sld hC hSc dL_law_395 h (fun v38 _ h => ?_)
  refine ck_c h (fun ho h => ?_)
  refine bnd_c h (fun w39 hw h => ?_)
  refine J_callV (As := [.int v38]) (M' := w39.1) (rv := some (Value.int w39.2)) (st := []) hC (fun l hl => cX3_root_ok w37.1 x2 v38 _ hw l hl) vm_X3_root k_L_108 ho ⟨rfl, rfl⟩ rfl ⟨Nat.le_of_ble_eq_true rfl, Nat.le_of_ble_eq_true rfl⟩ (Nat.zero_le _) ⟨show ce + 1 + 0 ≤ 601024 by omega, show sl + 6 + 0 ≤ 7293034 by omega⟩ dL_law_396 rfl ?_
  refine J_istore (lv' := [(7, .int w39.2), (6, .int w37.2), (0, .ref b), (1, rf x1), (2, rf x2), (3, rf x3), (4, rf x4), (5, .int x5)]) hC dL_law_399 (by decide) rfl ?_
  refine J_aload_n (j := 4) hC dL_law_401 rfl ?_
  refine ck_c h (fun ho h => ?_)
  refine bnd_c h (fun w40 hw h => ?_)
  refine J_callV (As := []) (M' := w39.1) (rv := some (Value.int w40)) (st := []) hC (fun l hl => cX3_thrown_ok w39.1 x2 _ hw l hl) vm_X3_thrown k_L_95 ho ⟨rfl, rfl⟩ rfl ⟨Nat.le_of_ble_eq_true rfl, Nat.le_of_ble_eq_true rfl⟩ (Nat.zero_le _) ⟨show ce + 1 + 0 + 0 ≤ 601024 by omega, show sl + 6 + 0 + 0 ≤ 7293034 by omega⟩ dL_law_402 rfl ?_
  refine J_iload (j := 1) hC dL_law_405 rfl ?_
  refine J_icmp_eq (tgt := 412) hC dL_law_407 (by decide) (fun c41 => ?_) (fun c41 => ?_)
  · have h := ite_t c41 h
    refine J_iload (j := 1) hC dL_law_412 rfl ?_
    refine J_if_ne (tgt := 429) hC dL_law_414 (by decide) (fun c42 => ?_) (fun c42 => ?_)
    · have h := ite_f c42 h
      refine J_goto (tgt := 1589) hC dL_law_429 (by decide) ?_
      refine J_widen (k := ce + 8) (n := sl + 48) (show ce + 1 + 0 + 0 ≤ ce + 8 by omega) (show sl + 6 + 0 + 0 ≤ sl + 48 by omega) ?_
      refine J_sub [2, 3, 4, 5, 6, 7] rfl ?_
      exact hk w39.1 h
    · have h := ite_t c42 h
      refine J_aload_n (j := 5) hC dL_law_417 rfl ?_
      refine J_iconst (v := 0) hC dL_law_418 (by decide) ?_
      refine J_lald hC dL_law_419 h (fun v43 _ h => ?_)
      refine J_iload (j := 0) hC dL_law_420 rfl ?_
      refine J_i2l hC dL_law_422 ?_
      refine J_lcmp hC dL_law_423 ?_
      refine J_if_eq (tgt := 429) hC dL_law_424 (by decide) (fun c44 => ?_) (fun c44 => ?_)
      · have h := ite_t c44 h
        refine J_goto (tgt := 1589) hC dL_law_429 (by decide) ?_
        refine J_widen (k := ce + 8) (n := sl + 48) (show ce + 1 + 0 + 0 ≤ ce + 8 by omega) (show sl + 6 + 0 + 0 ≤ sl + 48 by omega) ?_
        refine J_sub [2, 3, 4, 5, 6, 7] rfl ?_
        exact hk w39.1 h
      · have h := ite_f c44 h
        refine J_iconst (v := 0) hC dL_law_427 (by decide) ?_
        exact J_zret hC dL_law_428 (by decide) (by have h9 := Option.some.inj h; subst h9; rfl) (show ce + 1 + 0 + 0 ≤ 601024 by omega) (show sl + 6 + 0 + 0 ≤ 7293034 by omega)
  · have h := ite_f c41 h
    refine J_iconst (v := 0) hC dL_law_410 (by decide) ?_
    exact J_zret hC dL_law_411 (by decide) (by have h9 := Option.some.inj h; subst h9; rfl) (show ce + 1 + 0 + 0 ≤ 601024 by omega) (show sl + 6 + 0 + 0 ≤ 7293034 by omega)
set_option maxHeartbeats 4000000 in
set_option maxRecDepth 100000 in
theorem tL_case4 {C : JC} {r0 : Mem × Int32} {b : Nat} (xs : Nat → Int32) (L : Nat) (x1 x2 x3 x4 : Option Nat) (x5 : Int32) (kn : Mem → Option (Mem × Int32)) (hC : Ok C false cL_law 9 room_1 (some .boolean) RL (r0.1, Sum.inr (some (Value.int r0.2)))) (hSc : ScOK C b L xs) {ce sl : Nat} (hce : ce + 8 ≤ 601024) (hsl : sl + 48 ≤ 7293034) (hk : ∀ M : Mem, kn M = some r0 → J C (ce + 8) (sl + 48) M 1589 [(0, .ref b), (1, rf x1), (2, rf x2), (3, rf x3), (4, rf x4), (5, .int x5)] []) (M : Mem) (h : fL_case4 xs L x1 x2 x3 x4 x5 kn M = some r0) : J C ce sl M 432 [(0, .ref b), (1, rf x1), (2, rf x2), (3, rf x3), (4, rf x4), (5, .int x5)] [] := by
  unfold fL_case4 at h
  refine J_aload_n (j := 1) hC dL_law_432 rfl ?_
  refine ck_c h (fun ho h => ?_)
  refine bnd_c h (fun w45 hw h => ?_)
  refine J_callV (As := []) (M' := w45.1) (rv := some (Value.int w45.2)) (st := []) hC (fun l hl => cX2_unroot_ok M x1 _ hw l hl) vm_X2_unroot k_L_109 ho ⟨rfl, rfl⟩ rfl ⟨Nat.le_of_ble_eq_true rfl, Nat.le_of_ble_eq_true rfl⟩ (Nat.zero_le _) ⟨show ce + 0 ≤ 601024 by omega, show sl + 0 ≤ 7293034 by omega⟩ dL_law_433 rfl ?_
  refine J_aload_n (j := 2) hC dL_law_436 rfl ?_
  refine ck_c h (fun ho h => ?_)
  refine bnd_c h (fun w46 hw h => ?_)
  refine J_callV (As := []) (M' := w46.1) (rv := some (Value.int w46.2)) (st := [.int w45.2]) hC (fun l hl => cX3_unroot_ok w45.1 x2 _ hw l hl) vm_X3_unroot k_L_112 ho ⟨rfl, rfl⟩ rfl ⟨Nat.le_of_ble_eq_true rfl, Nat.le_of_ble_eq_true rfl⟩ (Nat.le_of_ble_eq_true rfl) ⟨show ce + 0 + 0 ≤ 601024 by omega, show sl + 0 + 0 ≤ 7293034 by omega⟩ dL_law_437 rfl ?_
  refine J_icmp_eq (tgt := 1589) hC dL_law_440 (by decide) (fun c47 => ?_) (fun c47 => ?_)
  · have h := ite_t c47 h
    refine J_widen (k := ce + 8) (n := sl + 48) (show ce + 0 + 0 ≤ ce + 8 by omega) (show sl + 0 + 0 ≤ sl + 48 by omega) ?_
    refine J_sub [0, 1, 2, 3, 4, 5] rfl ?_
    exact hk w46.1 h
  · have h := ite_f c47 h
    refine J_iconst (v := 0) hC dL_law_443 (by decide) ?_
    exact J_zret hC dL_law_444 (by decide) (by have h9 := Option.some.inj h; subst h9; rfl) (show ce + 0 + 0 ≤ 601024 by omega) (show sl + 0 + 0 ≤ 7293034 by omega)
set_option maxHeartbeats 4000000 in
set_option maxRecDepth 100000 in
theorem tL_case5 {C : JC} {r0 : Mem × Int32} {b : Nat} (xs : Nat → Int32) (L : Nat) (x1 x2 x3 x4 : Option Nat) (x5 : Int32) (kn : Mem → Option (Mem × Int32)) (hC : Ok C false cL_law 9 room_1 (some .boolean) RL (r0.1, Sum.inr (some (Value.int r0.2)))) (hSc : ScOK C b L xs) {ce sl : Nat} (hce : ce + 8 ≤ 601024) (hsl : sl + 48 ≤ 7293034) (hk : ∀ M : Mem, kn M = some r0 → J C (ce + 8) (sl + 48) M 1589 [(0, .ref b), (1, rf x1), (2, rf x2), (3, rf x3), (4, rf x4), (5, .int x5)] []) (M : Mem) (h : fL_case5 xs L x1 x2 x3 x4 x5 kn M = some r0) : J C ce sl M 445 [(0, .ref b), (1, rf x1), (2, rf x2), (3, rf x3), (4, rf x4), (5, .int x5)] [] := by
  unfold fL_case5 at h
  refine J_aload_n (j := 1) hC dL_law_445 rfl ?_
  refine J_aloadQ_n (j := 0) hC dL_law_446 rfl ?_
  refine J_iload (j := 5) hC dL_law_447 rfl ?_
  refine J_iconst (v := 1) hC dL_law_449 (by decide) ?_
  refine J_iadd hC dL_law_450 ?_
  refine J_sld hC hSc dL_law_451 h (fun v48 _ h => ?_)
  refine J_aload_n (j := 3) hC dL_law_452 rfl ?_
  refine bnd_c h (fun w49 hw h => ?_)
  refine J_callSW (As := [rf x1, .int v48, rf x3]) (M' := w49.1) (rv := some (Value.int w49.2)) (st := []) hC (fun l hl => cL_lower_ok M x1 v48 x3 _ hw l hl) sm_L_lower k_L_113 rfl ⟨Nat.le_of_ble_eq_true rfl, Nat.le_of_ble_eq_true rfl⟩ (Nat.zero_le _) ⟨show ce + 1 ≤ 601024 by omega, show sl + 6 ≤ 7293034 by omega⟩ dL_law_453 rfl ?_
  refine J_istore (lv' := [(6, .int w49.2), (0, .ref b), (1, rf x1), (2, rf x2), (3, rf x3), (4, rf x4), (5, .int x5)]) hC dL_law_456 (by decide) rfl ?_
  refine J_aload_n (j := 3) hC dL_law_458 rfl ?_
  refine J_aloadQ_n (j := 1) hC dL_law_459 rfl ?_
  refine J_iload (j := 6) hC dL_law_460 rfl ?_
  refine J_iconst (v := 1) hC dL_law_462 (by decide) ?_
  refine J_iadd hC dL_law_463 ?_
  refine J_sld hC hSc dL_law_464 h (fun v50 _ h => ?_)
  refine ck_c h (fun ho h => ?_)
  refine bnd_c h (fun w51 hw h => ?_)
  refine J_callV (As := [.int v50]) (M' := w51.1) (rv := some (Value.int w51.2)) (st := []) hC (fun l hl => cX3_lower_ok w49.1 x2 v50 _ hw l hl) vm_X3_lower k_L_115 ho ⟨rfl, rfl⟩ rfl ⟨Nat.le_of_ble_eq_true rfl, Nat.le_of_ble_eq_true rfl⟩ (Nat.zero_le _) ⟨show ce + 1 + 0 ≤ 601024 by omega, show sl + 6 + 0 ≤ 7293034 by omega⟩ dL_law_465 rfl ?_
  refine J_istore (lv' := [(7, .int w51.2), (6, .int w49.2), (0, .ref b), (1, rf x1), (2, rf x2), (3, rf x3), (4, rf x4), (5, .int x5)]) hC dL_law_468 (by decide) rfl ?_
  refine J_aload_n (j := 4) hC dL_law_470 rfl ?_
  refine ck_c h (fun ho h => ?_)
  refine bnd_c h (fun w52 hw h => ?_)
  refine J_callV (As := []) (M' := w51.1) (rv := some (Value.int w52)) (st := []) hC (fun l hl => cX3_thrown_ok w51.1 x2 _ hw l hl) vm_X3_thrown k_L_95 ho ⟨rfl, rfl⟩ rfl ⟨Nat.le_of_ble_eq_true rfl, Nat.le_of_ble_eq_true rfl⟩ (Nat.zero_le _) ⟨show ce + 1 + 0 + 0 ≤ 601024 by omega, show sl + 6 + 0 + 0 ≤ 7293034 by omega⟩ dL_law_471 rfl ?_
  refine J_iload (j := 1) hC dL_law_474 rfl ?_
  refine J_icmp_eq (tgt := 481) hC dL_law_476 (by decide) (fun c53 => ?_) (fun c53 => ?_)
  · have h := ite_t c53 h
    refine J_iload (j := 1) hC dL_law_481 rfl ?_
    refine J_if_ne (tgt := 498) hC dL_law_483 (by decide) (fun c54 => ?_) (fun c54 => ?_)
    · have h := ite_f c54 h
      refine J_goto (tgt := 1589) hC dL_law_498 (by decide) ?_
      refine J_widen (k := ce + 8) (n := sl + 48) (show ce + 1 + 0 + 0 ≤ ce + 8 by omega) (show sl + 6 + 0 + 0 ≤ sl + 48 by omega) ?_
      refine J_sub [2, 3, 4, 5, 6, 7] rfl ?_
      exact hk w51.1 h
    · have h := ite_t c54 h
      refine J_aload_n (j := 5) hC dL_law_486 rfl ?_
      refine J_iconst (v := 0) hC dL_law_487 (by decide) ?_
      refine J_lald hC dL_law_488 h (fun v55 _ h => ?_)
      refine J_iload (j := 0) hC dL_law_489 rfl ?_
      refine J_i2l hC dL_law_491 ?_
      refine J_lcmp hC dL_law_492 ?_
      refine J_if_eq (tgt := 498) hC dL_law_493 (by decide) (fun c56 => ?_) (fun c56 => ?_)
      · have h := ite_t c56 h
        refine J_goto (tgt := 1589) hC dL_law_498 (by decide) ?_
        refine J_widen (k := ce + 8) (n := sl + 48) (show ce + 1 + 0 + 0 ≤ ce + 8 by omega) (show sl + 6 + 0 + 0 ≤ sl + 48 by omega) ?_
        refine J_sub [2, 3, 4, 5, 6, 7] rfl ?_
        exact hk w51.1 h
      · have h := ite_f c56 h
        refine J_iconst (v := 0) hC dL_law_496 (by decide) ?_
        exact J_zret hC dL_law_497 (by decide) (by have h9 := Option.some.inj h; subst h9; rfl) (show ce + 1 + 0 + 0 ≤ 601024 by omega) (show sl + 6 + 0 + 0 ≤ 7293034 by omega)
  · have h := ite_f c53 h
    refine J_iconst (v := 0) hC dL_law_479 (by decide) ?_
    exact J_zret hC dL_law_480 (by decide) (by have h9 := Option.some.inj h; subst h9; rfl) (show ce + 1 + 0 + 0 ≤ 601024 by omega) (show sl + 6 + 0 + 0 ≤ 7293034 by omega)
set_option maxHeartbeats 4000000 in
set_option maxRecDepth 100000 in
theorem tL_case6 {C : JC} {r0 : Mem × Int32} {b : Nat} (xs : Nat → Int32) (L : Nat) (x1 x2 x3 x4 : Option Nat) (x5 : Int32) (kn : Mem → Option (Mem × Int32)) (hC : Ok C false cL_law 9 room_1 (some .boolean) RL (r0.1, Sum.inr (some (Value.int r0.2)))) (hSc : ScOK C b L xs) {ce sl : Nat} (hce : ce + 8 ≤ 601024) (hsl : sl + 48 ≤ 7293034) (hk : ∀ M : Mem, kn M = some r0 → J C (ce + 8) (sl + 48) M 1589 [(0, .ref b), (1, rf x1), (2, rf x2), (3, rf x3), (4, rf x4), (5, .int x5)] []) (M : Mem) (h : fL_case6 xs L x1 x2 x3 x4 x5 kn M = some r0) : J C ce sl M 501 [(0, .ref b), (1, rf x1), (2, rf x2), (3, rf x3), (4, rf x4), (5, .int x5)] [] := by
  unfold fL_case6 at h
  refine J_aload_n (j := 1) hC dL_law_501 rfl ?_
  refine J_aloadQ_n (j := 0) hC dL_law_502 rfl ?_
  refine J_iload (j := 5) hC dL_law_503 rfl ?_
  refine J_iconst (v := 1) hC dL_law_505 (by decide) ?_
  refine J_iadd hC dL_law_506 ?_
  refine J_sld hC hSc dL_law_507 h (fun v57 _ h => ?_)
  refine J_aload_n (j := 3) hC dL_law_508 rfl ?_
  refine bnd_c h (fun w58 hw h => ?_)
  refine J_callSW (As := [rf x1, .int v57, rf x3]) (M' := w58.1) (rv := some (Value.int w58.2)) (st := []) hC (fun l hl => cL_append_ok M x1 v57 x3 _ hw l hl) sm_L_append k_L_116 rfl ⟨Nat.le_of_ble_eq_true rfl, Nat.le_of_ble_eq_true rfl⟩ (Nat.zero_le _) ⟨show ce + 1 ≤ 601024 by omega, show sl + 6 ≤ 7293034 by omega⟩ dL_law_509 rfl ?_
  refine J_istore (lv' := [(6, .int w58.2), (0, .ref b), (1, rf x1), (2, rf x2), (3, rf x3), (4, rf x4), (5, .int x5)]) hC dL_law_512 (by decide) rfl ?_
  refine J_aload_n (j := 3) hC dL_law_514 rfl ?_
  refine J_aloadQ_n (j := 1) hC dL_law_515 rfl ?_
  refine J_iload (j := 6) hC dL_law_516 rfl ?_
  refine J_iconst (v := 1) hC dL_law_518 (by decide) ?_
  refine J_iadd hC dL_law_519 ?_
  refine J_sld hC hSc dL_law_520 h (fun v59 _ h => ?_)
  refine ck_c h (fun ho h => ?_)
  refine bnd_c h (fun w60 hw h => ?_)
  refine J_callV (As := [.int v59]) (M' := w60.1) (rv := some (Value.int w60.2)) (st := []) hC (fun l hl => cX3_append_ok w58.1 x2 v59 _ hw l hl) vm_X3_append k_L_118 ho ⟨rfl, rfl⟩ rfl ⟨Nat.le_of_ble_eq_true rfl, Nat.le_of_ble_eq_true rfl⟩ (Nat.zero_le _) ⟨show ce + 1 + 0 ≤ 601024 by omega, show sl + 6 + 0 ≤ 7293034 by omega⟩ dL_law_521 rfl ?_
  refine J_istore (lv' := [(7, .int w60.2), (6, .int w58.2), (0, .ref b), (1, rf x1), (2, rf x2), (3, rf x3), (4, rf x4), (5, .int x5)]) hC dL_law_524 (by decide) rfl ?_
  refine J_aload_n (j := 4) hC dL_law_526 rfl ?_
  refine ck_c h (fun ho h => ?_)
  refine bnd_c h (fun w61 hw h => ?_)
  refine J_callV (As := []) (M' := w60.1) (rv := some (Value.int w61)) (st := []) hC (fun l hl => cX3_thrown_ok w60.1 x2 _ hw l hl) vm_X3_thrown k_L_95 ho ⟨rfl, rfl⟩ rfl ⟨Nat.le_of_ble_eq_true rfl, Nat.le_of_ble_eq_true rfl⟩ (Nat.zero_le _) ⟨show ce + 1 + 0 + 0 ≤ 601024 by omega, show sl + 6 + 0 + 0 ≤ 7293034 by omega⟩ dL_law_527 rfl ?_
  refine J_iload (j := 1) hC dL_law_530 rfl ?_
  refine J_icmp_eq (tgt := 537) hC dL_law_532 (by decide) (fun c62 => ?_) (fun c62 => ?_)
  · have h := ite_t c62 h
    refine J_iload (j := 1) hC dL_law_537 rfl ?_
    refine J_if_ne (tgt := 554) hC dL_law_539 (by decide) (fun c63 => ?_) (fun c63 => ?_)
    · have h := ite_f c63 h
      refine J_goto (tgt := 1589) hC dL_law_554 (by decide) ?_
      refine J_widen (k := ce + 8) (n := sl + 48) (show ce + 1 + 0 + 0 ≤ ce + 8 by omega) (show sl + 6 + 0 + 0 ≤ sl + 48 by omega) ?_
      refine J_sub [2, 3, 4, 5, 6, 7] rfl ?_
      exact hk w60.1 h
    · have h := ite_t c63 h
      refine J_aload_n (j := 5) hC dL_law_542 rfl ?_
      refine J_iconst (v := 0) hC dL_law_543 (by decide) ?_
      refine J_lald hC dL_law_544 h (fun v64 _ h => ?_)
      refine J_iload (j := 0) hC dL_law_545 rfl ?_
      refine J_i2l hC dL_law_547 ?_
      refine J_lcmp hC dL_law_548 ?_
      refine J_if_eq (tgt := 554) hC dL_law_549 (by decide) (fun c65 => ?_) (fun c65 => ?_)
      · have h := ite_t c65 h
        refine J_goto (tgt := 1589) hC dL_law_554 (by decide) ?_
        refine J_widen (k := ce + 8) (n := sl + 48) (show ce + 1 + 0 + 0 ≤ ce + 8 by omega) (show sl + 6 + 0 + 0 ≤ sl + 48 by omega) ?_
        refine J_sub [2, 3, 4, 5, 6, 7] rfl ?_
        exact hk w60.1 h
      · have h := ite_f c65 h
        refine J_iconst (v := 0) hC dL_law_552 (by decide) ?_
        exact J_zret hC dL_law_553 (by decide) (by have h9 := Option.some.inj h; subst h9; rfl) (show ce + 1 + 0 + 0 ≤ 601024 by omega) (show sl + 6 + 0 + 0 ≤ 7293034 by omega)
  · have h := ite_f c62 h
    refine J_iconst (v := 0) hC dL_law_535 (by decide) ?_
    exact J_zret hC dL_law_536 (by decide) (by have h9 := Option.some.inj h; subst h9; rfl) (show ce + 1 + 0 + 0 ≤ 601024 by omega) (show sl + 6 + 0 + 0 ≤ 7293034 by omega)
set_option maxHeartbeats 4000000 in
set_option maxRecDepth 100000 in
theorem tL_case7 {C : JC} {r0 : Mem × Int32} {b : Nat} (xs : Nat → Int32) (L : Nat) (x1 x2 x3 x4 : Option Nat) (x5 : Int32) (kn : Mem → Option (Mem × Int32)) (hC : Ok C false cL_law 9 room_1 (some .boolean) RL (r0.1, Sum.inr (some (Value.int r0.2)))) (hSc : ScOK C b L xs) {ce sl : Nat} (hce : ce + 8 ≤ 601024) (hsl : sl + 48 ≤ 7293034) (hk : ∀ M : Mem, kn M = some r0 → J C (ce + 8) (sl + 48) M 1589 [(0, .ref b), (1, rf x1), (2, rf x2), (3, rf x3), (4, rf x4), (5, .int x5)] []) (M : Mem) (h : fL_case7 xs L x1 x2 x3 x4 x5 kn M = some r0) : J C ce sl M 557 [(0, .ref b), (1, rf x1), (2, rf x2), (3, rf x3), (4, rf x4), (5, .int x5)] [] := by
  unfold fL_case7 at h
  refine J_aload_n (j := 1) hC dL_law_557 rfl ?_
  refine ck_c h (fun ho h => ?_)
  refine bnd_c h (fun w66 hw h => ?_)
  refine J_callV (As := []) (M' := w66.1) (rv := some (Value.int w66.2)) (st := []) hC (fun l hl => cX2_clearBuffer_ok M x1 _ hw l hl) vm_X2_clearBuffer k_L_119 ho ⟨rfl, rfl⟩ rfl ⟨Nat.le_of_ble_eq_true rfl, Nat.le_of_ble_eq_true rfl⟩ (Nat.zero_le _) ⟨show ce + 0 ≤ 601024 by omega, show sl + 0 ≤ 7293034 by omega⟩ dL_law_558 rfl ?_
  refine J_aload_n (j := 2) hC dL_law_561 rfl ?_
  refine ck_c h (fun ho h => ?_)
  refine bnd_c h (fun w67 hw h => ?_)
  refine J_callV (As := []) (M' := w67.1) (rv := some (Value.int w67.2)) (st := [.int w66.2]) hC (fun l hl => cX3_clearBuffer_ok w66.1 x2 _ hw l hl) vm_X3_clearBuffer k_L_122 ho ⟨rfl, rfl⟩ rfl ⟨Nat.le_of_ble_eq_true rfl, Nat.le_of_ble_eq_true rfl⟩ (Nat.le_of_ble_eq_true rfl) ⟨show ce + 0 + 0 ≤ 601024 by omega, show sl + 0 + 0 ≤ 7293034 by omega⟩ dL_law_562 rfl ?_
  refine J_icmp_eq (tgt := 1589) hC dL_law_565 (by decide) (fun c68 => ?_) (fun c68 => ?_)
  · have h := ite_t c68 h
    refine J_widen (k := ce + 8) (n := sl + 48) (show ce + 0 + 0 ≤ ce + 8 by omega) (show sl + 0 + 0 ≤ sl + 48 by omega) ?_
    refine J_sub [0, 1, 2, 3, 4, 5] rfl ?_
    exact hk w67.1 h
  · have h := ite_f c68 h
    refine J_iconst (v := 0) hC dL_law_568 (by decide) ?_
    exact J_zret hC dL_law_569 (by decide) (by have h9 := Option.some.inj h; subst h9; rfl) (show ce + 0 + 0 ≤ 601024 by omega) (show sl + 0 + 0 ≤ 7293034 by omega)
set_option maxHeartbeats 4000000 in
set_option maxRecDepth 100000 in
theorem tL_case8 {C : JC} {r0 : Mem × Int32} {b : Nat} (xs : Nat → Int32) (L : Nat) (x1 x2 x3 x4 : Option Nat) (x5 : Int32) (kn : Mem → Option (Mem × Int32)) (hC : Ok C false cL_law 9 room_1 (some .boolean) RL (r0.1, Sum.inr (some (Value.int r0.2)))) (hSc : ScOK C b L xs) {ce sl : Nat} (hce : ce + 8 ≤ 601024) (hsl : sl + 48 ≤ 7293034) (hk : ∀ M : Mem, kn M = some r0 → J C (ce + 8) (sl + 48) M 1589 [(0, .ref b), (1, rf x1), (2, rf x2), (3, rf x3), (4, rf x4), (5, .int x5)] []) (M : Mem) (h : fL_case8 xs L x1 x2 x3 x4 x5 kn M = some r0) : J C ce sl M 570 [(0, .ref b), (1, rf x1), (2, rf x2), (3, rf x3), (4, rf x4), (5, .int x5)] [] := by
  unfold fL_case8 at h
  refine J_aload_n (j := 1) hC dL_law_570 rfl ?_
  refine ck_c h (fun ho h => ?_)
  refine bnd_c h (fun w69 hw h => ?_)
  refine J_callV (As := []) (M' := M) (rv := some (Value.int w69)) (st := []) hC (fun l hl => cX2_firstError_ok M x1 _ hw l hl) vm_X2_firstError k_L_123 ho ⟨rfl, rfl⟩ rfl ⟨Nat.le_of_ble_eq_true rfl, Nat.le_of_ble_eq_true rfl⟩ (Nat.zero_le _) ⟨show ce + 0 ≤ 601024 by omega, show sl + 0 ≤ 7293034 by omega⟩ dL_law_571 rfl ?_
  refine J_aload_n (j := 2) hC dL_law_574 rfl ?_
  refine ck_c h (fun ho h => ?_)
  refine bnd_c h (fun w70 hw h => ?_)
  refine J_callV (As := []) (M' := w70.1) (rv := some (Value.int w70.2)) (st := [.int w69]) hC (fun l hl => cX3_firstError_ok M x2 _ hw l hl) vm_X3_firstError k_L_126 ho ⟨rfl, rfl⟩ rfl ⟨Nat.le_of_ble_eq_true rfl, Nat.le_of_ble_eq_true rfl⟩ (Nat.le_of_ble_eq_true rfl) ⟨show ce + 0 + 0 ≤ 601024 by omega, show sl + 0 + 0 ≤ 7293034 by omega⟩ dL_law_575 rfl ?_
  refine J_icmp_eq (tgt := 1589) hC dL_law_578 (by decide) (fun c71 => ?_) (fun c71 => ?_)
  · have h := ite_t c71 h
    refine J_widen (k := ce + 8) (n := sl + 48) (show ce + 0 + 0 ≤ ce + 8 by omega) (show sl + 0 + 0 ≤ sl + 48 by omega) ?_
    refine J_sub [0, 1, 2, 3, 4, 5] rfl ?_
    exact hk w70.1 h
  · have h := ite_f c71 h
    refine J_iconst (v := 0) hC dL_law_581 (by decide) ?_
    exact J_zret hC dL_law_582 (by decide) (by have h9 := Option.some.inj h; subst h9; rfl) (show ce + 0 + 0 ≤ 601024 by omega) (show sl + 0 + 0 ≤ 7293034 by omega)
set_option maxHeartbeats 4000000 in
set_option maxRecDepth 100000 in
theorem tL_case9 {C : JC} {r0 : Mem × Int32} {b : Nat} (xs : Nat → Int32) (L : Nat) (x1 x2 x3 x4 : Option Nat) (x5 : Int32) (kn : Mem → Option (Mem × Int32)) (hC : Ok C false cL_law 9 room_1 (some .boolean) RL (r0.1, Sum.inr (some (Value.int r0.2)))) (hSc : ScOK C b L xs) {ce sl : Nat} (hce : ce + 8 ≤ 601024) (hsl : sl + 48 ≤ 7293034) (hk : ∀ M : Mem, kn M = some r0 → J C (ce + 8) (sl + 48) M 1589 [(0, .ref b), (1, rf x1), (2, rf x2), (3, rf x3), (4, rf x4), (5, .int x5)] []) (M : Mem) (h : fL_case9 xs L x1 x2 x3 x4 x5 kn M = some r0) : J C ce sl M 583 [(0, .ref b), (1, rf x1), (2, rf x2), (3, rf x3), (4, rf x4), (5, .int x5)] [] := by
  unfold fL_case9 at h
  refine J_aload_n (j := 1) hC dL_law_583 rfl ?_
  refine J_aloadQ_n (j := 0) hC dL_law_584 rfl ?_
  refine J_iload (j := 5) hC dL_law_585 rfl ?_
  refine J_iconst (v := 1) hC dL_law_587 (by decide) ?_
  refine J_iadd hC dL_law_588 ?_
  refine J_sld hC hSc dL_law_589 h (fun v72 _ h => ?_)
  refine J_aload_n (j := 3) hC dL_law_590 rfl ?_
  refine bnd_c h (fun w73 hw h => ?_)
  refine J_callSW (As := [rf x1, .int v72, rf x3]) (M' := w73.1) (rv := some (Value.int w73.2)) (st := []) hC (fun l hl => cL_load_ok M x1 v72 x3 _ hw l hl) sm_L_load k_L_127 rfl ⟨Nat.le_of_ble_eq_true rfl, Nat.le_of_ble_eq_true rfl⟩ (Nat.zero_le _) ⟨show ce + 2 ≤ 601024 by omega, show sl + 12 ≤ 7293034 by omega⟩ dL_law_591 rfl ?_
  refine J_istore (lv' := [(6, .int w73.2), (0, .ref b), (1, rf x1), (2, rf x2), (3, rf x3), (4, rf x4), (5, .int x5)]) hC dL_law_594 (by decide) rfl ?_
  refine J_aload_n (j := 3) hC dL_law_596 rfl ?_
  refine J_aloadQ_n (j := 1) hC dL_law_597 rfl ?_
  refine J_iload (j := 6) hC dL_law_598 rfl ?_
  refine J_iconst (v := 1) hC dL_law_600 (by decide) ?_
  refine J_iadd hC dL_law_601 ?_
  refine J_sld hC hSc dL_law_602 h (fun v74 _ h => ?_)
  refine ck_c h (fun ho h => ?_)
  refine bnd_c h (fun w75 hw h => ?_)
  refine J_callV (As := [.int v74]) (M' := w75.1) (rv := some (Value.int w75.2)) (st := []) hC (fun l hl => cX3_load_ok w73.1 x2 v74 _ hw l hl) vm_X3_load k_L_129 ho ⟨rfl, rfl⟩ rfl ⟨Nat.le_of_ble_eq_true rfl, Nat.le_of_ble_eq_true rfl⟩ (Nat.zero_le _) ⟨show ce + 2 + 0 ≤ 601024 by omega, show sl + 12 + 0 ≤ 7293034 by omega⟩ dL_law_603 rfl ?_
  refine J_istore (lv' := [(7, .int w75.2), (6, .int w73.2), (0, .ref b), (1, rf x1), (2, rf x2), (3, rf x3), (4, rf x4), (5, .int x5)]) hC dL_law_606 (by decide) rfl ?_
  refine J_aload_n (j := 4) hC dL_law_608 rfl ?_
  refine ck_c h (fun ho h => ?_)
  refine bnd_c h (fun w76 hw h => ?_)
  refine J_callV (As := []) (M' := w75.1) (rv := some (Value.int w76)) (st := []) hC (fun l hl => cX3_thrown_ok w75.1 x2 _ hw l hl) vm_X3_thrown k_L_95 ho ⟨rfl, rfl⟩ rfl ⟨Nat.le_of_ble_eq_true rfl, Nat.le_of_ble_eq_true rfl⟩ (Nat.zero_le _) ⟨show ce + 2 + 0 + 0 ≤ 601024 by omega, show sl + 12 + 0 + 0 ≤ 7293034 by omega⟩ dL_law_609 rfl ?_
  refine J_iload (j := 1) hC dL_law_612 rfl ?_
  refine J_icmp_eq (tgt := 619) hC dL_law_614 (by decide) (fun c77 => ?_) (fun c77 => ?_)
  · have h := ite_t c77 h
    refine J_iload (j := 1) hC dL_law_619 rfl ?_
    refine J_if_ne (tgt := 636) hC dL_law_621 (by decide) (fun c78 => ?_) (fun c78 => ?_)
    · have h := ite_f c78 h
      refine J_goto (tgt := 1589) hC dL_law_636 (by decide) ?_
      refine J_widen (k := ce + 8) (n := sl + 48) (show ce + 2 + 0 + 0 ≤ ce + 8 by omega) (show sl + 12 + 0 + 0 ≤ sl + 48 by omega) ?_
      refine J_sub [2, 3, 4, 5, 6, 7] rfl ?_
      exact hk w75.1 h
    · have h := ite_t c78 h
      refine J_aload_n (j := 5) hC dL_law_624 rfl ?_
      refine J_iconst (v := 0) hC dL_law_625 (by decide) ?_
      refine J_lald hC dL_law_626 h (fun v79 _ h => ?_)
      refine J_iload (j := 0) hC dL_law_627 rfl ?_
      refine J_i2l hC dL_law_629 ?_
      refine J_lcmp hC dL_law_630 ?_
      refine J_if_eq (tgt := 636) hC dL_law_631 (by decide) (fun c80 => ?_) (fun c80 => ?_)
      · have h := ite_t c80 h
        refine J_goto (tgt := 1589) hC dL_law_636 (by decide) ?_
        refine J_widen (k := ce + 8) (n := sl + 48) (show ce + 2 + 0 + 0 ≤ ce + 8 by omega) (show sl + 12 + 0 + 0 ≤ sl + 48 by omega) ?_
        refine J_sub [2, 3, 4, 5, 6, 7] rfl ?_
        exact hk w75.1 h
      · have h := ite_f c80 h
        refine J_iconst (v := 0) hC dL_law_634 (by decide) ?_
        exact J_zret hC dL_law_635 (by decide) (by have h9 := Option.some.inj h; subst h9; rfl) (show ce + 2 + 0 + 0 ≤ 601024 by omega) (show sl + 12 + 0 + 0 ≤ 7293034 by omega)
  · have h := ite_f c77 h
    refine J_iconst (v := 0) hC dL_law_617 (by decide) ?_
    exact J_zret hC dL_law_618 (by decide) (by have h9 := Option.some.inj h; subst h9; rfl) (show ce + 2 + 0 + 0 ≤ 601024 by omega) (show sl + 12 + 0 + 0 ≤ 7293034 by omega)
set_option maxHeartbeats 4000000 in
set_option maxRecDepth 100000 in
theorem tL_case10 {C : JC} {r0 : Mem × Int32} {b : Nat} (xs : Nat → Int32) (L : Nat) (x1 x2 x3 x4 : Option Nat) (x5 : Int32) (kn : Mem → Option (Mem × Int32)) (hC : Ok C false cL_law 9 room_1 (some .boolean) RL (r0.1, Sum.inr (some (Value.int r0.2)))) (hSc : ScOK C b L xs) {ce sl : Nat} (hce : ce + 8 ≤ 601024) (hsl : sl + 48 ≤ 7293034) (hk : ∀ M : Mem, kn M = some r0 → J C (ce + 8) (sl + 48) M 1589 [(0, .ref b), (1, rf x1), (2, rf x2), (3, rf x3), (4, rf x4), (5, .int x5)] []) (M : Mem) (h : fL_case10 xs L x1 x2 x3 x4 x5 kn M = some r0) : J C ce sl M 639 [(0, .ref b), (1, rf x1), (2, rf x2), (3, rf x3), (4, rf x4), (5, .int x5)] [] := by
  unfold fL_case10 at h
  refine J_aload_n (j := 1) hC dL_law_639 rfl ?_
  refine J_aloadQ_n (j := 0) hC dL_law_640 rfl ?_
  refine J_iload (j := 5) hC dL_law_641 rfl ?_
  refine J_iconst (v := 1) hC dL_law_643 (by decide) ?_
  refine J_iadd hC dL_law_644 ?_
  refine J_sld hC hSc dL_law_645 h (fun v81 _ h => ?_)
  refine J_aload_n (j := 3) hC dL_law_646 rfl ?_
  refine bnd_c h (fun w82 hw h => ?_)
  refine J_callSW (As := [rf x1, .int v81, rf x3]) (M' := w82.1) (rv := some (Value.int w82.2)) (st := []) hC (fun l hl => cL_keep_ok M x1 v81 x3 _ hw l hl) sm_L_keep k_L_130 rfl ⟨Nat.le_of_ble_eq_true rfl, Nat.le_of_ble_eq_true rfl⟩ (Nat.zero_le _) ⟨show ce + 1 ≤ 601024 by omega, show sl + 6 ≤ 7293034 by omega⟩ dL_law_647 rfl ?_
  refine J_istore (lv' := [(6, .int w82.2), (0, .ref b), (1, rf x1), (2, rf x2), (3, rf x3), (4, rf x4), (5, .int x5)]) hC dL_law_650 (by decide) rfl ?_
  refine J_aload_n (j := 3) hC dL_law_652 rfl ?_
  refine J_aloadQ_n (j := 1) hC dL_law_653 rfl ?_
  refine J_iload (j := 6) hC dL_law_654 rfl ?_
  refine J_iconst (v := 1) hC dL_law_656 (by decide) ?_
  refine J_iadd hC dL_law_657 ?_
  refine J_sld hC hSc dL_law_658 h (fun v83 _ h => ?_)
  refine ck_c h (fun ho h => ?_)
  refine bnd_c h (fun w84 hw h => ?_)
  refine J_callV (As := [.int v83]) (M' := w84.1) (rv := some (Value.int w84.2)) (st := []) hC (fun l hl => cX3_keep_ok w82.1 x2 v83 _ hw l hl) vm_X3_keep k_L_132 ho ⟨rfl, rfl⟩ rfl ⟨Nat.le_of_ble_eq_true rfl, Nat.le_of_ble_eq_true rfl⟩ (Nat.zero_le _) ⟨show ce + 1 + 0 ≤ 601024 by omega, show sl + 6 + 0 ≤ 7293034 by omega⟩ dL_law_659 rfl ?_
  refine J_istore (lv' := [(7, .int w84.2), (6, .int w82.2), (0, .ref b), (1, rf x1), (2, rf x2), (3, rf x3), (4, rf x4), (5, .int x5)]) hC dL_law_662 (by decide) rfl ?_
  refine J_aload_n (j := 4) hC dL_law_664 rfl ?_
  refine ck_c h (fun ho h => ?_)
  refine bnd_c h (fun w85 hw h => ?_)
  refine J_callV (As := []) (M' := w84.1) (rv := some (Value.int w85)) (st := []) hC (fun l hl => cX3_thrown_ok w84.1 x2 _ hw l hl) vm_X3_thrown k_L_95 ho ⟨rfl, rfl⟩ rfl ⟨Nat.le_of_ble_eq_true rfl, Nat.le_of_ble_eq_true rfl⟩ (Nat.zero_le _) ⟨show ce + 1 + 0 + 0 ≤ 601024 by omega, show sl + 6 + 0 + 0 ≤ 7293034 by omega⟩ dL_law_665 rfl ?_
  refine J_iload (j := 1) hC dL_law_668 rfl ?_
  refine J_icmp_eq (tgt := 675) hC dL_law_670 (by decide) (fun c86 => ?_) (fun c86 => ?_)
  · have h := ite_t c86 h
    refine J_iload (j := 1) hC dL_law_675 rfl ?_
    refine J_if_ne (tgt := 692) hC dL_law_677 (by decide) (fun c87 => ?_) (fun c87 => ?_)
    · have h := ite_f c87 h
      refine J_goto (tgt := 1589) hC dL_law_692 (by decide) ?_
      refine J_widen (k := ce + 8) (n := sl + 48) (show ce + 1 + 0 + 0 ≤ ce + 8 by omega) (show sl + 6 + 0 + 0 ≤ sl + 48 by omega) ?_
      refine J_sub [2, 3, 4, 5, 6, 7] rfl ?_
      exact hk w84.1 h
    · have h := ite_t c87 h
      refine J_aload_n (j := 5) hC dL_law_680 rfl ?_
      refine J_iconst (v := 0) hC dL_law_681 (by decide) ?_
      refine J_lald hC dL_law_682 h (fun v88 _ h => ?_)
      refine J_iload (j := 0) hC dL_law_683 rfl ?_
      refine J_i2l hC dL_law_685 ?_
      refine J_lcmp hC dL_law_686 ?_
      refine J_if_eq (tgt := 692) hC dL_law_687 (by decide) (fun c89 => ?_) (fun c89 => ?_)
      · have h := ite_t c89 h
        refine J_goto (tgt := 1589) hC dL_law_692 (by decide) ?_
        refine J_widen (k := ce + 8) (n := sl + 48) (show ce + 1 + 0 + 0 ≤ ce + 8 by omega) (show sl + 6 + 0 + 0 ≤ sl + 48 by omega) ?_
        refine J_sub [2, 3, 4, 5, 6, 7] rfl ?_
        exact hk w84.1 h
      · have h := ite_f c89 h
        refine J_iconst (v := 0) hC dL_law_690 (by decide) ?_
        exact J_zret hC dL_law_691 (by decide) (by have h9 := Option.some.inj h; subst h9; rfl) (show ce + 1 + 0 + 0 ≤ 601024 by omega) (show sl + 6 + 0 + 0 ≤ 7293034 by omega)
  · have h := ite_f c86 h
    refine J_iconst (v := 0) hC dL_law_673 (by decide) ?_
    exact J_zret hC dL_law_674 (by decide) (by have h9 := Option.some.inj h; subst h9; rfl) (show ce + 1 + 0 + 0 ≤ 601024 by omega) (show sl + 6 + 0 + 0 ≤ 7293034 by omega)
set_option maxHeartbeats 4000000 in
set_option maxRecDepth 100000 in
theorem tL_case11 {C : JC} {r0 : Mem × Int32} {b : Nat} (xs : Nat → Int32) (L : Nat) (x1 x2 x3 x4 : Option Nat) (x5 : Int32) (kn : Mem → Option (Mem × Int32)) (hC : Ok C false cL_law 9 room_1 (some .boolean) RL (r0.1, Sum.inr (some (Value.int r0.2)))) (hSc : ScOK C b L xs) {ce sl : Nat} (hce : ce + 8 ≤ 601024) (hsl : sl + 48 ≤ 7293034) (hk : ∀ M : Mem, kn M = some r0 → J C (ce + 8) (sl + 48) M 1589 [(0, .ref b), (1, rf x1), (2, rf x2), (3, rf x3), (4, rf x4), (5, .int x5)] []) (M : Mem) (h : fL_case11 xs L x1 x2 x3 x4 x5 kn M = some r0) : J C ce sl M 695 [(0, .ref b), (1, rf x1), (2, rf x2), (3, rf x3), (4, rf x4), (5, .int x5)] [] := by
  unfold fL_case11 at h
  refine J_aload_n (j := 1) hC dL_law_695 rfl ?_
  refine J_aloadQ_n (j := 0) hC dL_law_696 rfl ?_
  refine J_iload (j := 5) hC dL_law_697 rfl ?_
  refine J_iconst (v := 1) hC dL_law_699 (by decide) ?_
  refine J_iadd hC dL_law_700 ?_
  refine J_sld hC hSc dL_law_701 h (fun v90 _ h => ?_)
  refine J_aload_n (j := 3) hC dL_law_702 rfl ?_
  refine bnd_c h (fun w91 hw h => ?_)
  refine J_callSW (As := [rf x1, .int v90, rf x3]) (M' := w91.1) (rv := some (Value.int w91.2)) (st := []) hC (fun l hl => cL_goBack_ok M x1 v90 x3 _ hw l hl) sm_L_goBack k_L_133 rfl ⟨Nat.le_of_ble_eq_true rfl, Nat.le_of_ble_eq_true rfl⟩ (Nat.zero_le _) ⟨show ce + 2 ≤ 601024 by omega, show sl + 12 ≤ 7293034 by omega⟩ dL_law_703 rfl ?_
  refine J_istore (lv' := [(6, .int w91.2), (0, .ref b), (1, rf x1), (2, rf x2), (3, rf x3), (4, rf x4), (5, .int x5)]) hC dL_law_706 (by decide) rfl ?_
  refine J_aload_n (j := 3) hC dL_law_708 rfl ?_
  refine J_aloadQ_n (j := 1) hC dL_law_709 rfl ?_
  refine J_iload (j := 6) hC dL_law_710 rfl ?_
  refine J_iconst (v := 1) hC dL_law_712 (by decide) ?_
  refine J_iadd hC dL_law_713 ?_
  refine J_sld hC hSc dL_law_714 h (fun v92 _ h => ?_)
  refine ck_c h (fun ho h => ?_)
  refine bnd_c h (fun w93 hw h => ?_)
  refine J_callV (As := [.int v92]) (M' := w93.1) (rv := some (Value.int w93.2)) (st := []) hC (fun l hl => cX3_goBack_ok w91.1 x2 v92 _ hw l hl) vm_X3_goBack k_L_135 ho ⟨rfl, rfl⟩ rfl ⟨Nat.le_of_ble_eq_true rfl, Nat.le_of_ble_eq_true rfl⟩ (Nat.zero_le _) ⟨show ce + 2 + 0 ≤ 601024 by omega, show sl + 12 + 0 ≤ 7293034 by omega⟩ dL_law_715 rfl ?_
  refine J_istore (lv' := [(7, .int w93.2), (6, .int w91.2), (0, .ref b), (1, rf x1), (2, rf x2), (3, rf x3), (4, rf x4), (5, .int x5)]) hC dL_law_718 (by decide) rfl ?_
  refine J_aload_n (j := 4) hC dL_law_720 rfl ?_
  refine ck_c h (fun ho h => ?_)
  refine bnd_c h (fun w94 hw h => ?_)
  refine J_callV (As := []) (M' := w93.1) (rv := some (Value.int w94)) (st := []) hC (fun l hl => cX3_thrown_ok w93.1 x2 _ hw l hl) vm_X3_thrown k_L_95 ho ⟨rfl, rfl⟩ rfl ⟨Nat.le_of_ble_eq_true rfl, Nat.le_of_ble_eq_true rfl⟩ (Nat.zero_le _) ⟨show ce + 2 + 0 + 0 ≤ 601024 by omega, show sl + 12 + 0 + 0 ≤ 7293034 by omega⟩ dL_law_721 rfl ?_
  refine J_iload (j := 1) hC dL_law_724 rfl ?_
  refine J_icmp_eq (tgt := 731) hC dL_law_726 (by decide) (fun c95 => ?_) (fun c95 => ?_)
  · have h := ite_t c95 h
    refine J_iload (j := 1) hC dL_law_731 rfl ?_
    refine J_if_ne (tgt := 748) hC dL_law_733 (by decide) (fun c96 => ?_) (fun c96 => ?_)
    · have h := ite_f c96 h
      refine J_goto (tgt := 1589) hC dL_law_748 (by decide) ?_
      refine J_widen (k := ce + 8) (n := sl + 48) (show ce + 2 + 0 + 0 ≤ ce + 8 by omega) (show sl + 12 + 0 + 0 ≤ sl + 48 by omega) ?_
      refine J_sub [2, 3, 4, 5, 6, 7] rfl ?_
      exact hk w93.1 h
    · have h := ite_t c96 h
      refine J_aload_n (j := 5) hC dL_law_736 rfl ?_
      refine J_iconst (v := 0) hC dL_law_737 (by decide) ?_
      refine J_lald hC dL_law_738 h (fun v97 _ h => ?_)
      refine J_iload (j := 0) hC dL_law_739 rfl ?_
      refine J_i2l hC dL_law_741 ?_
      refine J_lcmp hC dL_law_742 ?_
      refine J_if_eq (tgt := 748) hC dL_law_743 (by decide) (fun c98 => ?_) (fun c98 => ?_)
      · have h := ite_t c98 h
        refine J_goto (tgt := 1589) hC dL_law_748 (by decide) ?_
        refine J_widen (k := ce + 8) (n := sl + 48) (show ce + 2 + 0 + 0 ≤ ce + 8 by omega) (show sl + 12 + 0 + 0 ≤ sl + 48 by omega) ?_
        refine J_sub [2, 3, 4, 5, 6, 7] rfl ?_
        exact hk w93.1 h
      · have h := ite_f c98 h
        refine J_iconst (v := 0) hC dL_law_746 (by decide) ?_
        exact J_zret hC dL_law_747 (by decide) (by have h9 := Option.some.inj h; subst h9; rfl) (show ce + 2 + 0 + 0 ≤ 601024 by omega) (show sl + 12 + 0 + 0 ≤ 7293034 by omega)
  · have h := ite_f c95 h
    refine J_iconst (v := 0) hC dL_law_729 (by decide) ?_
    exact J_zret hC dL_law_730 (by decide) (by have h9 := Option.some.inj h; subst h9; rfl) (show ce + 2 + 0 + 0 ≤ 601024 by omega) (show sl + 12 + 0 + 0 ≤ 7293034 by omega)
set_option maxHeartbeats 4000000 in
set_option maxRecDepth 100000 in
theorem tL_case12 {C : JC} {r0 : Mem × Int32} {b : Nat} (xs : Nat → Int32) (L : Nat) (x1 x2 x3 x4 : Option Nat) (x5 : Int32) (kn : Mem → Option (Mem × Int32)) (hC : Ok C false cL_law 9 room_1 (some .boolean) RL (r0.1, Sum.inr (some (Value.int r0.2)))) (hSc : ScOK C b L xs) {ce sl : Nat} (hce : ce + 8 ≤ 601024) (hsl : sl + 48 ≤ 7293034) (hk : ∀ M : Mem, kn M = some r0 → J C (ce + 8) (sl + 48) M 1589 [(0, .ref b), (1, rf x1), (2, rf x2), (3, rf x3), (4, rf x4), (5, .int x5)] []) (M : Mem) (h : fL_case12 xs L x1 x2 x3 x4 x5 kn M = some r0) : J C ce sl M 751 [(0, .ref b), (1, rf x1), (2, rf x2), (3, rf x3), (4, rf x4), (5, .int x5)] [] := by
  unfold fL_case12 at h
  refine J_aload_n (j := 1) hC dL_law_751 rfl ?_
  refine J_aload_n (j := 3) hC dL_law_752 rfl ?_
  refine bnd_c h (fun w99 hw h => ?_)
  refine J_callSW (As := [rf x1, rf x3]) (M' := w99.1) (rv := some (Value.int w99.2)) (st := []) hC (fun l hl => cL_undo_ok M x1 x3 _ hw l hl) sm_L_undo k_L_136 rfl ⟨Nat.le_of_ble_eq_true rfl, Nat.le_of_ble_eq_true rfl⟩ (Nat.zero_le _) ⟨show ce + 1 ≤ 601024 by omega, show sl + 6 ≤ 7293034 by omega⟩ dL_law_753 rfl ?_
  refine J_istore (lv' := [(6, .int w99.2), (0, .ref b), (1, rf x1), (2, rf x2), (3, rf x3), (4, rf x4), (5, .int x5)]) hC dL_law_756 (by decide) rfl ?_
  refine J_aload_n (j := 3) hC dL_law_758 rfl ?_
  refine ck_c h (fun ho h => ?_)
  refine bnd_c h (fun w100 hw h => ?_)
  refine J_callV (As := []) (M' := w100.1) (rv := some (Value.int w100.2)) (st := []) hC (fun l hl => cX3_undo_ok w99.1 x2 _ hw l hl) vm_X3_undo k_L_139 ho ⟨rfl, rfl⟩ rfl ⟨Nat.le_of_ble_eq_true rfl, Nat.le_of_ble_eq_true rfl⟩ (Nat.zero_le _) ⟨show ce + 1 + 0 ≤ 601024 by omega, show sl + 6 + 0 ≤ 7293034 by omega⟩ dL_law_759 rfl ?_
  refine J_istore (lv' := [(7, .int w100.2), (6, .int w99.2), (0, .ref b), (1, rf x1), (2, rf x2), (3, rf x3), (4, rf x4), (5, .int x5)]) hC dL_law_762 (by decide) rfl ?_
  refine J_aload_n (j := 4) hC dL_law_764 rfl ?_
  refine ck_c h (fun ho h => ?_)
  refine bnd_c h (fun w101 hw h => ?_)
  refine J_callV (As := []) (M' := w100.1) (rv := some (Value.int w101)) (st := []) hC (fun l hl => cX3_thrown_ok w100.1 x2 _ hw l hl) vm_X3_thrown k_L_95 ho ⟨rfl, rfl⟩ rfl ⟨Nat.le_of_ble_eq_true rfl, Nat.le_of_ble_eq_true rfl⟩ (Nat.zero_le _) ⟨show ce + 1 + 0 + 0 ≤ 601024 by omega, show sl + 6 + 0 + 0 ≤ 7293034 by omega⟩ dL_law_765 rfl ?_
  refine J_iload (j := 1) hC dL_law_768 rfl ?_
  refine J_icmp_eq (tgt := 775) hC dL_law_770 (by decide) (fun c102 => ?_) (fun c102 => ?_)
  · have h := ite_t c102 h
    refine J_iload (j := 1) hC dL_law_775 rfl ?_
    refine J_if_ne (tgt := 792) hC dL_law_777 (by decide) (fun c103 => ?_) (fun c103 => ?_)
    · have h := ite_f c103 h
      refine J_goto (tgt := 1589) hC dL_law_792 (by decide) ?_
      refine J_widen (k := ce + 8) (n := sl + 48) (show ce + 1 + 0 + 0 ≤ ce + 8 by omega) (show sl + 6 + 0 + 0 ≤ sl + 48 by omega) ?_
      refine J_sub [2, 3, 4, 5, 6, 7] rfl ?_
      exact hk w100.1 h
    · have h := ite_t c103 h
      refine J_aload_n (j := 5) hC dL_law_780 rfl ?_
      refine J_iconst (v := 0) hC dL_law_781 (by decide) ?_
      refine J_lald hC dL_law_782 h (fun v104 _ h => ?_)
      refine J_iload (j := 0) hC dL_law_783 rfl ?_
      refine J_i2l hC dL_law_785 ?_
      refine J_lcmp hC dL_law_786 ?_
      refine J_if_eq (tgt := 792) hC dL_law_787 (by decide) (fun c105 => ?_) (fun c105 => ?_)
      · have h := ite_t c105 h
        refine J_goto (tgt := 1589) hC dL_law_792 (by decide) ?_
        refine J_widen (k := ce + 8) (n := sl + 48) (show ce + 1 + 0 + 0 ≤ ce + 8 by omega) (show sl + 6 + 0 + 0 ≤ sl + 48 by omega) ?_
        refine J_sub [2, 3, 4, 5, 6, 7] rfl ?_
        exact hk w100.1 h
      · have h := ite_f c105 h
        refine J_iconst (v := 0) hC dL_law_790 (by decide) ?_
        exact J_zret hC dL_law_791 (by decide) (by have h9 := Option.some.inj h; subst h9; rfl) (show ce + 1 + 0 + 0 ≤ 601024 by omega) (show sl + 6 + 0 + 0 ≤ 7293034 by omega)
  · have h := ite_f c102 h
    refine J_iconst (v := 0) hC dL_law_773 (by decide) ?_
    exact J_zret hC dL_law_774 (by decide) (by have h9 := Option.some.inj h; subst h9; rfl) (show ce + 1 + 0 + 0 ≤ 601024 by omega) (show sl + 6 + 0 + 0 ≤ 7293034 by omega)
set_option maxHeartbeats 4000000 in
set_option maxRecDepth 100000 in
theorem tL_case13 {C : JC} {r0 : Mem × Int32} {b : Nat} (xs : Nat → Int32) (L : Nat) (x1 x2 x3 x4 : Option Nat) (x5 : Int32) (kn : Mem → Option (Mem × Int32)) (hC : Ok C false cL_law 9 room_1 (some .boolean) RL (r0.1, Sum.inr (some (Value.int r0.2)))) (hSc : ScOK C b L xs) {ce sl : Nat} (hce : ce + 8 ≤ 601024) (hsl : sl + 48 ≤ 7293034) (hk : ∀ M : Mem, kn M = some r0 → J C (ce + 8) (sl + 48) M 1589 [(0, .ref b), (1, rf x1), (2, rf x2), (3, rf x3), (4, rf x4), (5, .int x5)] []) (M : Mem) (h : fL_case13 xs L x1 x2 x3 x4 x5 kn M = some r0) : J C ce sl M 795 [(0, .ref b), (1, rf x1), (2, rf x2), (3, rf x3), (4, rf x4), (5, .int x5)] [] := by
  unfold fL_case13 at h
  refine J_aload_n (j := 1) hC dL_law_795 rfl ?_
  refine J_aloadQ_n (j := 0) hC dL_law_796 rfl ?_
  refine J_iload (j := 5) hC dL_law_797 rfl ?_
  refine J_iconst (v := 1) hC dL_law_799 (by decide) ?_
  refine J_iadd hC dL_law_800 ?_
  refine J_sld hC hSc dL_law_801 h (fun v106 _ h => ?_)
  refine J_aloadQ_n (j := 0) hC dL_law_802 rfl ?_
  refine J_iload (j := 5) hC dL_law_803 rfl ?_
  refine J_iconst (v := 2) hC dL_law_805 (by decide) ?_
  refine J_iadd hC dL_law_806 ?_
  refine J_sld hC hSc dL_law_807 h (fun v107 _ h => ?_)
  refine J_aload_n (j := 3) hC dL_law_808 rfl ?_
  refine bnd_c h (fun w108 hw h => ?_)
  refine J_callSW (As := [rf x1, .int v106, .int v107, rf x3]) (M' := w108.1) (rv := some (Value.int w108.2)) (st := []) hC (fun l hl => cL_sign_ok M x1 v106 v107 x3 _ hw l hl) sm_L_sign k_L_140 rfl ⟨Nat.le_of_ble_eq_true rfl, Nat.le_of_ble_eq_true rfl⟩ (Nat.zero_le _) ⟨show ce + 2 ≤ 601024 by omega, show sl + 12 ≤ 7293034 by omega⟩ dL_law_809 rfl ?_
  refine J_istore (lv' := [(6, .int w108.2), (0, .ref b), (1, rf x1), (2, rf x2), (3, rf x3), (4, rf x4), (5, .int x5)]) hC dL_law_812 (by decide) rfl ?_
  refine J_aload_n (j := 3) hC dL_law_814 rfl ?_
  refine J_aloadQ_n (j := 1) hC dL_law_815 rfl ?_
  refine J_iload (j := 6) hC dL_law_816 rfl ?_
  refine J_iconst (v := 1) hC dL_law_818 (by decide) ?_
  refine J_iadd hC dL_law_819 ?_
  refine J_sld hC hSc dL_law_820 h (fun v109 _ h => ?_)
  refine J_aloadQ_n (j := 1) hC dL_law_821 rfl ?_
  refine J_iload (j := 6) hC dL_law_822 rfl ?_
  refine J_iconst (v := 2) hC dL_law_824 (by decide) ?_
  refine J_iadd hC dL_law_825 ?_
  refine J_sld hC hSc dL_law_826 h (fun v110 _ h => ?_)
  refine ck_c h (fun ho h => ?_)
  refine bnd_c h (fun w111 hw h => ?_)
  refine J_callV (As := [.int v109, .int v110]) (M' := w111.1) (rv := some (Value.int w111.2)) (st := []) hC (fun l hl => cX3_sign_ok w108.1 x2 v109 v110 _ hw l hl) vm_X3_sign k_L_142 ho ⟨rfl, rfl⟩ rfl ⟨Nat.le_of_ble_eq_true rfl, Nat.le_of_ble_eq_true rfl⟩ (Nat.zero_le _) ⟨show ce + 2 + 0 ≤ 601024 by omega, show sl + 12 + 0 ≤ 7293034 by omega⟩ dL_law_827 rfl ?_
  refine J_istore (lv' := [(7, .int w111.2), (6, .int w108.2), (0, .ref b), (1, rf x1), (2, rf x2), (3, rf x3), (4, rf x4), (5, .int x5)]) hC dL_law_830 (by decide) rfl ?_
  refine J_aload_n (j := 4) hC dL_law_832 rfl ?_
  refine ck_c h (fun ho h => ?_)
  refine bnd_c h (fun w112 hw h => ?_)
  refine J_callV (As := []) (M' := w111.1) (rv := some (Value.int w112)) (st := []) hC (fun l hl => cX3_thrown_ok w111.1 x2 _ hw l hl) vm_X3_thrown k_L_95 ho ⟨rfl, rfl⟩ rfl ⟨Nat.le_of_ble_eq_true rfl, Nat.le_of_ble_eq_true rfl⟩ (Nat.zero_le _) ⟨show ce + 2 + 0 + 0 ≤ 601024 by omega, show sl + 12 + 0 + 0 ≤ 7293034 by omega⟩ dL_law_833 rfl ?_
  refine J_iload (j := 1) hC dL_law_836 rfl ?_
  refine J_icmp_eq (tgt := 843) hC dL_law_838 (by decide) (fun c113 => ?_) (fun c113 => ?_)
  · have h := ite_t c113 h
    refine J_iload (j := 1) hC dL_law_843 rfl ?_
    refine J_if_ne (tgt := 860) hC dL_law_845 (by decide) (fun c114 => ?_) (fun c114 => ?_)
    · have h := ite_f c114 h
      refine J_goto (tgt := 1589) hC dL_law_860 (by decide) ?_
      refine J_widen (k := ce + 8) (n := sl + 48) (show ce + 2 + 0 + 0 ≤ ce + 8 by omega) (show sl + 12 + 0 + 0 ≤ sl + 48 by omega) ?_
      refine J_sub [2, 3, 4, 5, 6, 7] rfl ?_
      exact hk w111.1 h
    · have h := ite_t c114 h
      refine J_aload_n (j := 5) hC dL_law_848 rfl ?_
      refine J_iconst (v := 0) hC dL_law_849 (by decide) ?_
      refine J_lald hC dL_law_850 h (fun v115 _ h => ?_)
      refine J_iload (j := 0) hC dL_law_851 rfl ?_
      refine J_i2l hC dL_law_853 ?_
      refine J_lcmp hC dL_law_854 ?_
      refine J_if_eq (tgt := 860) hC dL_law_855 (by decide) (fun c116 => ?_) (fun c116 => ?_)
      · have h := ite_t c116 h
        refine J_goto (tgt := 1589) hC dL_law_860 (by decide) ?_
        refine J_widen (k := ce + 8) (n := sl + 48) (show ce + 2 + 0 + 0 ≤ ce + 8 by omega) (show sl + 12 + 0 + 0 ≤ sl + 48 by omega) ?_
        refine J_sub [2, 3, 4, 5, 6, 7] rfl ?_
        exact hk w111.1 h
      · have h := ite_f c116 h
        refine J_iconst (v := 0) hC dL_law_858 (by decide) ?_
        exact J_zret hC dL_law_859 (by decide) (by have h9 := Option.some.inj h; subst h9; rfl) (show ce + 2 + 0 + 0 ≤ 601024 by omega) (show sl + 12 + 0 + 0 ≤ 7293034 by omega)
  · have h := ite_f c113 h
    refine J_iconst (v := 0) hC dL_law_841 (by decide) ?_
    exact J_zret hC dL_law_842 (by decide) (by have h9 := Option.some.inj h; subst h9; rfl) (show ce + 2 + 0 + 0 ≤ 601024 by omega) (show sl + 12 + 0 + 0 ≤ 7293034 by omega)
set_option maxHeartbeats 4000000 in
set_option maxRecDepth 100000 in
theorem tL_case14 {C : JC} {r0 : Mem × Int32} {b : Nat} (xs : Nat → Int32) (L : Nat) (x1 x2 x3 x4 : Option Nat) (x5 : Int32) (kn : Mem → Option (Mem × Int32)) (hC : Ok C false cL_law 9 room_1 (some .boolean) RL (r0.1, Sum.inr (some (Value.int r0.2)))) (hSc : ScOK C b L xs) {ce sl : Nat} (hce : ce + 8 ≤ 601024) (hsl : sl + 48 ≤ 7293034) (hk : ∀ M : Mem, kn M = some r0 → J C (ce + 8) (sl + 48) M 1589 [(0, .ref b), (1, rf x1), (2, rf x2), (3, rf x3), (4, rf x4), (5, .int x5)] []) (M : Mem) (h : fL_case14 xs L x1 x2 x3 x4 x5 kn M = some r0) : J C ce sl M 863 [(0, .ref b), (1, rf x1), (2, rf x2), (3, rf x3), (4, rf x4), (5, .int x5)] [] := by
  unfold fL_case14 at h
  refine J_aload_n (j := 1) hC dL_law_863 rfl ?_
  refine J_aloadQ_n (j := 0) hC dL_law_864 rfl ?_
  refine J_iload (j := 5) hC dL_law_865 rfl ?_
  refine J_iconst (v := 1) hC dL_law_867 (by decide) ?_
  refine J_iadd hC dL_law_868 ?_
  refine J_sld hC hSc dL_law_869 h (fun v117 _ h => ?_)
  refine J_aloadQ_n (j := 0) hC dL_law_870 rfl ?_
  refine J_iload (j := 5) hC dL_law_871 rfl ?_
  refine J_iconst (v := 2) hC dL_law_873 (by decide) ?_
  refine J_iadd hC dL_law_874 ?_
  refine J_sld hC hSc dL_law_875 h (fun v118 _ h => ?_)
  refine J_aload_n (j := 3) hC dL_law_876 rfl ?_
  refine bnd_c h (fun w119 hw h => ?_)
  refine J_callSW (As := [rf x1, .int v117, .int v118, rf x3]) (M' := w119.1) (rv := some (Value.int w119.2)) (st := []) hC (fun l hl => cL_of_ok M x1 v117 v118 x3 _ hw l hl) sm_L_of k_L_143 rfl ⟨Nat.le_of_ble_eq_true rfl, Nat.le_of_ble_eq_true rfl⟩ (Nat.zero_le _) ⟨show ce + 2 ≤ 601024 by omega, show sl + 12 ≤ 7293034 by omega⟩ dL_law_877 rfl ?_
  refine J_istore (lv' := [(6, .int w119.2), (0, .ref b), (1, rf x1), (2, rf x2), (3, rf x3), (4, rf x4), (5, .int x5)]) hC dL_law_880 (by decide) rfl ?_
  refine J_aload_n (j := 3) hC dL_law_882 rfl ?_
  refine J_aloadQ_n (j := 1) hC dL_law_883 rfl ?_
  refine J_iload (j := 6) hC dL_law_884 rfl ?_
  refine J_iconst (v := 1) hC dL_law_886 (by decide) ?_
  refine J_iadd hC dL_law_887 ?_
  refine J_sld hC hSc dL_law_888 h (fun v120 _ h => ?_)
  refine J_aloadQ_n (j := 1) hC dL_law_889 rfl ?_
  refine J_iload (j := 6) hC dL_law_890 rfl ?_
  refine J_iconst (v := 2) hC dL_law_892 (by decide) ?_
  refine J_iadd hC dL_law_893 ?_
  refine J_sld hC hSc dL_law_894 h (fun v121 _ h => ?_)
  refine ck_c h (fun ho h => ?_)
  refine bnd_c h (fun w122 hw h => ?_)
  refine J_callV (As := [.int v120, .int v121]) (M' := w122.1) (rv := some (Value.int w122.2)) (st := []) hC (fun l hl => cX3_of_ok w119.1 x2 v120 v121 _ hw l hl) vm_X3_of k_L_145 ho ⟨rfl, rfl⟩ rfl ⟨Nat.le_of_ble_eq_true rfl, Nat.le_of_ble_eq_true rfl⟩ (Nat.zero_le _) ⟨show ce + 2 + 0 ≤ 601024 by omega, show sl + 12 + 0 ≤ 7293034 by omega⟩ dL_law_895 rfl ?_
  refine J_istore (lv' := [(7, .int w122.2), (6, .int w119.2), (0, .ref b), (1, rf x1), (2, rf x2), (3, rf x3), (4, rf x4), (5, .int x5)]) hC dL_law_898 (by decide) rfl ?_
  refine J_aload_n (j := 4) hC dL_law_900 rfl ?_
  refine ck_c h (fun ho h => ?_)
  refine bnd_c h (fun w123 hw h => ?_)
  refine J_callV (As := []) (M' := w122.1) (rv := some (Value.int w123)) (st := []) hC (fun l hl => cX3_thrown_ok w122.1 x2 _ hw l hl) vm_X3_thrown k_L_95 ho ⟨rfl, rfl⟩ rfl ⟨Nat.le_of_ble_eq_true rfl, Nat.le_of_ble_eq_true rfl⟩ (Nat.zero_le _) ⟨show ce + 2 + 0 + 0 ≤ 601024 by omega, show sl + 12 + 0 + 0 ≤ 7293034 by omega⟩ dL_law_901 rfl ?_
  refine J_iload (j := 1) hC dL_law_904 rfl ?_
  refine J_icmp_eq (tgt := 911) hC dL_law_906 (by decide) (fun c124 => ?_) (fun c124 => ?_)
  · have h := ite_t c124 h
    refine J_iload (j := 1) hC dL_law_911 rfl ?_
    refine J_if_ne (tgt := 928) hC dL_law_913 (by decide) (fun c125 => ?_) (fun c125 => ?_)
    · have h := ite_f c125 h
      refine J_goto (tgt := 1589) hC dL_law_928 (by decide) ?_
      refine J_widen (k := ce + 8) (n := sl + 48) (show ce + 2 + 0 + 0 ≤ ce + 8 by omega) (show sl + 12 + 0 + 0 ≤ sl + 48 by omega) ?_
      refine J_sub [2, 3, 4, 5, 6, 7] rfl ?_
      exact hk w122.1 h
    · have h := ite_t c125 h
      refine J_aload_n (j := 5) hC dL_law_916 rfl ?_
      refine J_iconst (v := 0) hC dL_law_917 (by decide) ?_
      refine J_lald hC dL_law_918 h (fun v126 _ h => ?_)
      refine J_iload (j := 0) hC dL_law_919 rfl ?_
      refine J_i2l hC dL_law_921 ?_
      refine J_lcmp hC dL_law_922 ?_
      refine J_if_eq (tgt := 928) hC dL_law_923 (by decide) (fun c127 => ?_) (fun c127 => ?_)
      · have h := ite_t c127 h
        refine J_goto (tgt := 1589) hC dL_law_928 (by decide) ?_
        refine J_widen (k := ce + 8) (n := sl + 48) (show ce + 2 + 0 + 0 ≤ ce + 8 by omega) (show sl + 12 + 0 + 0 ≤ sl + 48 by omega) ?_
        refine J_sub [2, 3, 4, 5, 6, 7] rfl ?_
        exact hk w122.1 h
      · have h := ite_f c127 h
        refine J_iconst (v := 0) hC dL_law_926 (by decide) ?_
        exact J_zret hC dL_law_927 (by decide) (by have h9 := Option.some.inj h; subst h9; rfl) (show ce + 2 + 0 + 0 ≤ 601024 by omega) (show sl + 12 + 0 + 0 ≤ 7293034 by omega)
  · have h := ite_f c124 h
    refine J_iconst (v := 0) hC dL_law_909 (by decide) ?_
    exact J_zret hC dL_law_910 (by decide) (by have h9 := Option.some.inj h; subst h9; rfl) (show ce + 2 + 0 + 0 ≤ 601024 by omega) (show sl + 12 + 0 + 0 ≤ 7293034 by omega)
set_option maxHeartbeats 4000000 in
set_option maxRecDepth 100000 in
theorem tL_case15 {C : JC} {r0 : Mem × Int32} {b : Nat} (xs : Nat → Int32) (L : Nat) (x1 x2 x3 x4 : Option Nat) (x5 : Int32) (kn : Mem → Option (Mem × Int32)) (hC : Ok C false cL_law 9 room_1 (some .boolean) RL (r0.1, Sum.inr (some (Value.int r0.2)))) (hSc : ScOK C b L xs) {ce sl : Nat} (hce : ce + 8 ≤ 601024) (hsl : sl + 48 ≤ 7293034) (hk : ∀ M : Mem, kn M = some r0 → J C (ce + 8) (sl + 48) M 1589 [(0, .ref b), (1, rf x1), (2, rf x2), (3, rf x3), (4, rf x4), (5, .int x5)] []) (M : Mem) (h : fL_case15 xs L x1 x2 x3 x4 x5 kn M = some r0) : J C ce sl M 931 [(0, .ref b), (1, rf x1), (2, rf x2), (3, rf x3), (4, rf x4), (5, .int x5)] [] := by
  unfold fL_case15 at h
  refine J_aload_n (j := 1) hC dL_law_931 rfl ?_
  refine J_aloadQ_n (j := 0) hC dL_law_932 rfl ?_
  refine J_iload (j := 5) hC dL_law_933 rfl ?_
  refine J_iconst (v := 1) hC dL_law_935 (by decide) ?_
  refine J_iadd hC dL_law_936 ?_
  refine J_sld hC hSc dL_law_937 h (fun v128 _ h => ?_)
  refine J_aloadQ_n (j := 0) hC dL_law_938 rfl ?_
  refine J_iload (j := 5) hC dL_law_939 rfl ?_
  refine J_iconst (v := 2) hC dL_law_941 (by decide) ?_
  refine J_iadd hC dL_law_942 ?_
  refine J_sld hC hSc dL_law_943 h (fun v129 _ h => ?_)
  refine J_aload_n (j := 3) hC dL_law_944 rfl ?_
  refine bnd_c h (fun w130 hw h => ?_)
  refine J_callSW (As := [rf x1, .int v128, .int v129, rf x3]) (M' := w130.1) (rv := some (Value.int w130.2)) (st := []) hC (fun l hl => cL_isRoot_ok M x1 v128 v129 x3 _ hw l hl) sm_L_isRoot k_L_146 rfl ⟨Nat.le_of_ble_eq_true rfl, Nat.le_of_ble_eq_true rfl⟩ (Nat.zero_le _) ⟨show ce + 2 ≤ 601024 by omega, show sl + 12 ≤ 7293034 by omega⟩ dL_law_945 rfl ?_
  refine J_istore (lv' := [(6, .int w130.2), (0, .ref b), (1, rf x1), (2, rf x2), (3, rf x3), (4, rf x4), (5, .int x5)]) hC dL_law_948 (by decide) rfl ?_
  refine J_aload_n (j := 3) hC dL_law_950 rfl ?_
  refine J_aloadQ_n (j := 1) hC dL_law_951 rfl ?_
  refine J_iload (j := 6) hC dL_law_952 rfl ?_
  refine J_iconst (v := 1) hC dL_law_954 (by decide) ?_
  refine J_iadd hC dL_law_955 ?_
  refine J_sld hC hSc dL_law_956 h (fun v131 _ h => ?_)
  refine J_aloadQ_n (j := 1) hC dL_law_957 rfl ?_
  refine J_iload (j := 6) hC dL_law_958 rfl ?_
  refine J_iconst (v := 2) hC dL_law_960 (by decide) ?_
  refine J_iadd hC dL_law_961 ?_
  refine J_sld hC hSc dL_law_962 h (fun v132 _ h => ?_)
  refine ck_c h (fun ho h => ?_)
  refine bnd_c h (fun w133 hw h => ?_)
  refine J_callV (As := [.int v131, .int v132]) (M' := w133.1) (rv := some (Value.int w133.2)) (st := []) hC (fun l hl => cX3_isRoot_ok w130.1 x2 v131 v132 _ hw l hl) vm_X3_isRoot k_L_148 ho ⟨rfl, rfl⟩ rfl ⟨Nat.le_of_ble_eq_true rfl, Nat.le_of_ble_eq_true rfl⟩ (Nat.zero_le _) ⟨show ce + 2 + 0 ≤ 601024 by omega, show sl + 12 + 0 ≤ 7293034 by omega⟩ dL_law_963 rfl ?_
  refine J_istore (lv' := [(7, .int w133.2), (6, .int w130.2), (0, .ref b), (1, rf x1), (2, rf x2), (3, rf x3), (4, rf x4), (5, .int x5)]) hC dL_law_966 (by decide) rfl ?_
  refine J_aload_n (j := 4) hC dL_law_968 rfl ?_
  refine ck_c h (fun ho h => ?_)
  refine bnd_c h (fun w134 hw h => ?_)
  refine J_callV (As := []) (M' := w133.1) (rv := some (Value.int w134)) (st := []) hC (fun l hl => cX3_thrown_ok w133.1 x2 _ hw l hl) vm_X3_thrown k_L_95 ho ⟨rfl, rfl⟩ rfl ⟨Nat.le_of_ble_eq_true rfl, Nat.le_of_ble_eq_true rfl⟩ (Nat.zero_le _) ⟨show ce + 2 + 0 + 0 ≤ 601024 by omega, show sl + 12 + 0 + 0 ≤ 7293034 by omega⟩ dL_law_969 rfl ?_
  refine J_iload (j := 1) hC dL_law_972 rfl ?_
  refine J_icmp_eq (tgt := 979) hC dL_law_974 (by decide) (fun c135 => ?_) (fun c135 => ?_)
  · have h := ite_t c135 h
    refine J_iload (j := 1) hC dL_law_979 rfl ?_
    refine J_if_ne (tgt := 996) hC dL_law_981 (by decide) (fun c136 => ?_) (fun c136 => ?_)
    · have h := ite_f c136 h
      refine J_goto (tgt := 1589) hC dL_law_996 (by decide) ?_
      refine J_widen (k := ce + 8) (n := sl + 48) (show ce + 2 + 0 + 0 ≤ ce + 8 by omega) (show sl + 12 + 0 + 0 ≤ sl + 48 by omega) ?_
      refine J_sub [2, 3, 4, 5, 6, 7] rfl ?_
      exact hk w133.1 h
    · have h := ite_t c136 h
      refine J_aload_n (j := 5) hC dL_law_984 rfl ?_
      refine J_iconst (v := 0) hC dL_law_985 (by decide) ?_
      refine J_lald hC dL_law_986 h (fun v137 _ h => ?_)
      refine J_iload (j := 0) hC dL_law_987 rfl ?_
      refine J_i2l hC dL_law_989 ?_
      refine J_lcmp hC dL_law_990 ?_
      refine J_if_eq (tgt := 996) hC dL_law_991 (by decide) (fun c138 => ?_) (fun c138 => ?_)
      · have h := ite_t c138 h
        refine J_goto (tgt := 1589) hC dL_law_996 (by decide) ?_
        refine J_widen (k := ce + 8) (n := sl + 48) (show ce + 2 + 0 + 0 ≤ ce + 8 by omega) (show sl + 12 + 0 + 0 ≤ sl + 48 by omega) ?_
        refine J_sub [2, 3, 4, 5, 6, 7] rfl ?_
        exact hk w133.1 h
      · have h := ite_f c138 h
        refine J_iconst (v := 0) hC dL_law_994 (by decide) ?_
        exact J_zret hC dL_law_995 (by decide) (by have h9 := Option.some.inj h; subst h9; rfl) (show ce + 2 + 0 + 0 ≤ 601024 by omega) (show sl + 12 + 0 + 0 ≤ 7293034 by omega)
  · have h := ite_f c135 h
    refine J_iconst (v := 0) hC dL_law_977 (by decide) ?_
    exact J_zret hC dL_law_978 (by decide) (by have h9 := Option.some.inj h; subst h9; rfl) (show ce + 2 + 0 + 0 ≤ 601024 by omega) (show sl + 12 + 0 + 0 ≤ 7293034 by omega)
set_option maxHeartbeats 4000000 in
set_option maxRecDepth 100000 in
theorem tL_case16 {C : JC} {r0 : Mem × Int32} {b : Nat} (xs : Nat → Int32) (L : Nat) (x1 x2 x3 x4 : Option Nat) (x5 : Int32) (kn : Mem → Option (Mem × Int32)) (hC : Ok C false cL_law 9 room_1 (some .boolean) RL (r0.1, Sum.inr (some (Value.int r0.2)))) (hSc : ScOK C b L xs) {ce sl : Nat} (hce : ce + 8 ≤ 601024) (hsl : sl + 48 ≤ 7293034) (hk : ∀ M : Mem, kn M = some r0 → J C (ce + 8) (sl + 48) M 1589 [(0, .ref b), (1, rf x1), (2, rf x2), (3, rf x3), (4, rf x4), (5, .int x5)] []) (M : Mem) (h : fL_case16 xs L x1 x2 x3 x4 x5 kn M = some r0) : J C ce sl M 999 [(0, .ref b), (1, rf x1), (2, rf x2), (3, rf x3), (4, rf x4), (5, .int x5)] [] := by
  unfold fL_case16 at h
  refine J_aload_n (j := 1) hC dL_law_999 rfl ?_
  refine J_aloadQ_n (j := 0) hC dL_law_1000 rfl ?_
  refine J_iload (j := 5) hC dL_law_1001 rfl ?_
  refine J_iconst (v := 1) hC dL_law_1003 (by decide) ?_
  refine J_iadd hC dL_law_1004 ?_
  refine J_sld hC hSc dL_law_1005 h (fun v139 _ h => ?_)
  refine J_aloadQ_n (j := 0) hC dL_law_1006 rfl ?_
  refine J_iload (j := 5) hC dL_law_1007 rfl ?_
  refine J_iconst (v := 2) hC dL_law_1009 (by decide) ?_
  refine J_iadd hC dL_law_1010 ?_
  refine J_sld hC hSc dL_law_1011 h (fun v140 _ h => ?_)
  refine J_aloadQ_n (j := 0) hC dL_law_1012 rfl ?_
  refine J_iload (j := 5) hC dL_law_1013 rfl ?_
  refine J_iconst (v := 3) hC dL_law_1015 (by decide) ?_
  refine J_iadd hC dL_law_1016 ?_
  refine J_sld hC hSc dL_law_1017 h (fun v141 _ h => ?_)
  refine J_aload_n (j := 3) hC dL_law_1018 rfl ?_
  refine bnd_c h (fun w142 hw h => ?_)
  refine J_callSW (As := [rf x1, .int v139, .int v140, .int v141, rf x3]) (M' := w142.1) (rv := some (Value.int w142.2)) (st := []) hC (fun l hl => cL_times_ok M x1 v139 v140 v141 x3 _ hw l hl) sm_L_times k_L_149 rfl ⟨Nat.le_of_ble_eq_true rfl, Nat.le_of_ble_eq_true rfl⟩ (Nat.zero_le _) ⟨show ce + 3 ≤ 601024 by omega, show sl + 18 ≤ 7293034 by omega⟩ dL_law_1019 rfl ?_
  refine J_istore (lv' := [(6, .int w142.2), (0, .ref b), (1, rf x1), (2, rf x2), (3, rf x3), (4, rf x4), (5, .int x5)]) hC dL_law_1022 (by decide) rfl ?_
  refine J_aload_n (j := 3) hC dL_law_1024 rfl ?_
  refine J_aloadQ_n (j := 1) hC dL_law_1025 rfl ?_
  refine J_iload (j := 6) hC dL_law_1026 rfl ?_
  refine J_iconst (v := 1) hC dL_law_1028 (by decide) ?_
  refine J_iadd hC dL_law_1029 ?_
  refine J_sld hC hSc dL_law_1030 h (fun v143 _ h => ?_)
  refine J_aloadQ_n (j := 1) hC dL_law_1031 rfl ?_
  refine J_iload (j := 6) hC dL_law_1032 rfl ?_
  refine J_iconst (v := 2) hC dL_law_1034 (by decide) ?_
  refine J_iadd hC dL_law_1035 ?_
  refine J_sld hC hSc dL_law_1036 h (fun v144 _ h => ?_)
  refine J_aloadQ_n (j := 1) hC dL_law_1037 rfl ?_
  refine J_iload (j := 6) hC dL_law_1038 rfl ?_
  refine J_iconst (v := 3) hC dL_law_1040 (by decide) ?_
  refine J_iadd hC dL_law_1041 ?_
  refine J_sld hC hSc dL_law_1042 h (fun v145 _ h => ?_)
  refine ck_c h (fun ho h => ?_)
  refine bnd_c h (fun w146 hw h => ?_)
  refine J_callV (As := [.int v143, .int v144, .int v145]) (M' := w146.1) (rv := some (Value.int w146.2)) (st := []) hC (fun l hl => cX3_times_ok w142.1 x2 v143 v144 v145 _ hw l hl) vm_X3_times k_L_151 ho ⟨rfl, rfl⟩ rfl ⟨Nat.le_of_ble_eq_true rfl, Nat.le_of_ble_eq_true rfl⟩ (Nat.zero_le _) ⟨show ce + 3 + 0 ≤ 601024 by omega, show sl + 18 + 0 ≤ 7293034 by omega⟩ dL_law_1043 rfl ?_
  refine J_istore (lv' := [(7, .int w146.2), (6, .int w142.2), (0, .ref b), (1, rf x1), (2, rf x2), (3, rf x3), (4, rf x4), (5, .int x5)]) hC dL_law_1046 (by decide) rfl ?_
  refine J_aload_n (j := 4) hC dL_law_1048 rfl ?_
  refine ck_c h (fun ho h => ?_)
  refine bnd_c h (fun w147 hw h => ?_)
  refine J_callV (As := []) (M' := w146.1) (rv := some (Value.int w147)) (st := []) hC (fun l hl => cX3_thrown_ok w146.1 x2 _ hw l hl) vm_X3_thrown k_L_95 ho ⟨rfl, rfl⟩ rfl ⟨Nat.le_of_ble_eq_true rfl, Nat.le_of_ble_eq_true rfl⟩ (Nat.zero_le _) ⟨show ce + 3 + 0 + 0 ≤ 601024 by omega, show sl + 18 + 0 + 0 ≤ 7293034 by omega⟩ dL_law_1049 rfl ?_
  refine J_iload (j := 1) hC dL_law_1052 rfl ?_
  refine J_icmp_eq (tgt := 1059) hC dL_law_1054 (by decide) (fun c148 => ?_) (fun c148 => ?_)
  · have h := ite_t c148 h
    refine J_iload (j := 1) hC dL_law_1059 rfl ?_
    refine J_if_ne (tgt := 1076) hC dL_law_1061 (by decide) (fun c149 => ?_) (fun c149 => ?_)
    · have h := ite_f c149 h
      refine J_goto (tgt := 1589) hC dL_law_1076 (by decide) ?_
      refine J_widen (k := ce + 8) (n := sl + 48) (show ce + 3 + 0 + 0 ≤ ce + 8 by omega) (show sl + 18 + 0 + 0 ≤ sl + 48 by omega) ?_
      refine J_sub [2, 3, 4, 5, 6, 7] rfl ?_
      exact hk w146.1 h
    · have h := ite_t c149 h
      refine J_aload_n (j := 5) hC dL_law_1064 rfl ?_
      refine J_iconst (v := 0) hC dL_law_1065 (by decide) ?_
      refine J_lald hC dL_law_1066 h (fun v150 _ h => ?_)
      refine J_iload (j := 0) hC dL_law_1067 rfl ?_
      refine J_i2l hC dL_law_1069 ?_
      refine J_lcmp hC dL_law_1070 ?_
      refine J_if_eq (tgt := 1076) hC dL_law_1071 (by decide) (fun c151 => ?_) (fun c151 => ?_)
      · have h := ite_t c151 h
        refine J_goto (tgt := 1589) hC dL_law_1076 (by decide) ?_
        refine J_widen (k := ce + 8) (n := sl + 48) (show ce + 3 + 0 + 0 ≤ ce + 8 by omega) (show sl + 18 + 0 + 0 ≤ sl + 48 by omega) ?_
        refine J_sub [2, 3, 4, 5, 6, 7] rfl ?_
        exact hk w146.1 h
      · have h := ite_f c151 h
        refine J_iconst (v := 0) hC dL_law_1074 (by decide) ?_
        exact J_zret hC dL_law_1075 (by decide) (by have h9 := Option.some.inj h; subst h9; rfl) (show ce + 3 + 0 + 0 ≤ 601024 by omega) (show sl + 18 + 0 + 0 ≤ 7293034 by omega)
  · have h := ite_f c148 h
    refine J_iconst (v := 0) hC dL_law_1057 (by decide) ?_
    exact J_zret hC dL_law_1058 (by decide) (by have h9 := Option.some.inj h; subst h9; rfl) (show ce + 3 + 0 + 0 ≤ 601024 by omega) (show sl + 18 + 0 + 0 ≤ 7293034 by omega)
set_option maxHeartbeats 4000000 in
set_option maxRecDepth 100000 in
theorem tL_case17 {C : JC} {r0 : Mem × Int32} {b : Nat} (xs : Nat → Int32) (L : Nat) (x1 x2 x3 x4 : Option Nat) (x5 : Int32) (kn : Mem → Option (Mem × Int32)) (hC : Ok C false cL_law 9 room_1 (some .boolean) RL (r0.1, Sum.inr (some (Value.int r0.2)))) (hSc : ScOK C b L xs) {ce sl : Nat} (hce : ce + 8 ≤ 601024) (hsl : sl + 48 ≤ 7293034) (hk : ∀ M : Mem, kn M = some r0 → J C (ce + 8) (sl + 48) M 1589 [(0, .ref b), (1, rf x1), (2, rf x2), (3, rf x3), (4, rf x4), (5, .int x5)] []) (M : Mem) (h : fL_case17 xs L x1 x2 x3 x4 x5 kn M = some r0) : J C ce sl M 1079 [(0, .ref b), (1, rf x1), (2, rf x2), (3, rf x3), (4, rf x4), (5, .int x5)] [] := by
  unfold fL_case17 at h
  refine J_aload_n (j := 1) hC dL_law_1079 rfl ?_
  refine J_aloadQ_n (j := 0) hC dL_law_1080 rfl ?_
  refine J_iload (j := 5) hC dL_law_1081 rfl ?_
  refine J_iconst (v := 1) hC dL_law_1083 (by decide) ?_
  refine J_iadd hC dL_law_1084 ?_
  refine J_sld hC hSc dL_law_1085 h (fun v152 _ h => ?_)
  refine J_aloadQ_n (j := 0) hC dL_law_1086 rfl ?_
  refine J_iload (j := 5) hC dL_law_1087 rfl ?_
  refine J_iconst (v := 2) hC dL_law_1089 (by decide) ?_
  refine J_iadd hC dL_law_1090 ?_
  refine J_sld hC hSc dL_law_1091 h (fun v153 _ h => ?_)
  refine J_aload_n (j := 3) hC dL_law_1092 rfl ?_
  refine bnd_c h (fun w154 hw h => ?_)
  refine J_callSW (As := [rf x1, .int v152, .int v153, rf x3]) (M' := w154.1) (rv := some (Value.int w154.2)) (st := []) hC (fun l hl => cL_quotients_ok M x1 v152 v153 x3 _ hw l hl) sm_L_quotients k_L_152 rfl ⟨Nat.le_of_ble_eq_true rfl, Nat.le_of_ble_eq_true rfl⟩ (Nat.zero_le _) ⟨show ce + 2 ≤ 601024 by omega, show sl + 12 ≤ 7293034 by omega⟩ dL_law_1093 rfl ?_
  refine J_istore (lv' := [(6, .int w154.2), (0, .ref b), (1, rf x1), (2, rf x2), (3, rf x3), (4, rf x4), (5, .int x5)]) hC dL_law_1096 (by decide) rfl ?_
  refine J_aload_n (j := 3) hC dL_law_1098 rfl ?_
  refine J_aloadQ_n (j := 1) hC dL_law_1099 rfl ?_
  refine J_iload (j := 6) hC dL_law_1100 rfl ?_
  refine J_iconst (v := 1) hC dL_law_1102 (by decide) ?_
  refine J_iadd hC dL_law_1103 ?_
  refine J_sld hC hSc dL_law_1104 h (fun v155 _ h => ?_)
  refine J_aloadQ_n (j := 1) hC dL_law_1105 rfl ?_
  refine J_iload (j := 6) hC dL_law_1106 rfl ?_
  refine J_iconst (v := 2) hC dL_law_1108 (by decide) ?_
  refine J_iadd hC dL_law_1109 ?_
  refine J_sld hC hSc dL_law_1110 h (fun v156 _ h => ?_)
  refine ck_c h (fun ho h => ?_)
  refine bnd_c h (fun w157 hw h => ?_)
  refine J_callV (As := [.int v155, .int v156]) (M' := w157.1) (rv := some (Value.int w157.2)) (st := []) hC (fun l hl => cX3_quotients_ok w154.1 x2 v155 v156 _ hw l hl) vm_X3_quotients k_L_154 ho ⟨rfl, rfl⟩ rfl ⟨Nat.le_of_ble_eq_true rfl, Nat.le_of_ble_eq_true rfl⟩ (Nat.zero_le _) ⟨show ce + 2 + 0 ≤ 601024 by omega, show sl + 12 + 0 ≤ 7293034 by omega⟩ dL_law_1111 rfl ?_
  refine J_istore (lv' := [(7, .int w157.2), (6, .int w154.2), (0, .ref b), (1, rf x1), (2, rf x2), (3, rf x3), (4, rf x4), (5, .int x5)]) hC dL_law_1114 (by decide) rfl ?_
  refine J_aload_n (j := 4) hC dL_law_1116 rfl ?_
  refine ck_c h (fun ho h => ?_)
  refine bnd_c h (fun w158 hw h => ?_)
  refine J_callV (As := []) (M' := w157.1) (rv := some (Value.int w158)) (st := []) hC (fun l hl => cX3_thrown_ok w157.1 x2 _ hw l hl) vm_X3_thrown k_L_95 ho ⟨rfl, rfl⟩ rfl ⟨Nat.le_of_ble_eq_true rfl, Nat.le_of_ble_eq_true rfl⟩ (Nat.zero_le _) ⟨show ce + 2 + 0 + 0 ≤ 601024 by omega, show sl + 12 + 0 + 0 ≤ 7293034 by omega⟩ dL_law_1117 rfl ?_
  refine J_iload (j := 1) hC dL_law_1120 rfl ?_
  refine J_icmp_eq (tgt := 1127) hC dL_law_1122 (by decide) (fun c159 => ?_) (fun c159 => ?_)
  · have h := ite_t c159 h
    refine J_iload (j := 1) hC dL_law_1127 rfl ?_
    refine J_if_ne (tgt := 1144) hC dL_law_1129 (by decide) (fun c160 => ?_) (fun c160 => ?_)
    · have h := ite_f c160 h
      refine J_goto (tgt := 1589) hC dL_law_1144 (by decide) ?_
      refine J_widen (k := ce + 8) (n := sl + 48) (show ce + 2 + 0 + 0 ≤ ce + 8 by omega) (show sl + 12 + 0 + 0 ≤ sl + 48 by omega) ?_
      refine J_sub [2, 3, 4, 5, 6, 7] rfl ?_
      exact hk w157.1 h
    · have h := ite_t c160 h
      refine J_aload_n (j := 5) hC dL_law_1132 rfl ?_
      refine J_iconst (v := 0) hC dL_law_1133 (by decide) ?_
      refine J_lald hC dL_law_1134 h (fun v161 _ h => ?_)
      refine J_iload (j := 0) hC dL_law_1135 rfl ?_
      refine J_i2l hC dL_law_1137 ?_
      refine J_lcmp hC dL_law_1138 ?_
      refine J_if_eq (tgt := 1144) hC dL_law_1139 (by decide) (fun c162 => ?_) (fun c162 => ?_)
      · have h := ite_t c162 h
        refine J_goto (tgt := 1589) hC dL_law_1144 (by decide) ?_
        refine J_widen (k := ce + 8) (n := sl + 48) (show ce + 2 + 0 + 0 ≤ ce + 8 by omega) (show sl + 12 + 0 + 0 ≤ sl + 48 by omega) ?_
        refine J_sub [2, 3, 4, 5, 6, 7] rfl ?_
        exact hk w157.1 h
      · have h := ite_f c162 h
        refine J_iconst (v := 0) hC dL_law_1142 (by decide) ?_
        exact J_zret hC dL_law_1143 (by decide) (by have h9 := Option.some.inj h; subst h9; rfl) (show ce + 2 + 0 + 0 ≤ 601024 by omega) (show sl + 12 + 0 + 0 ≤ 7293034 by omega)
  · have h := ite_f c159 h
    refine J_iconst (v := 0) hC dL_law_1125 (by decide) ?_
    exact J_zret hC dL_law_1126 (by decide) (by have h9 := Option.some.inj h; subst h9; rfl) (show ce + 2 + 0 + 0 ≤ 601024 by omega) (show sl + 12 + 0 + 0 ≤ 7293034 by omega)
set_option maxHeartbeats 4000000 in
set_option maxRecDepth 100000 in
theorem tL_case18 {C : JC} {r0 : Mem × Int32} {b : Nat} (xs : Nat → Int32) (L : Nat) (x1 x2 x3 x4 : Option Nat) (x5 : Int32) (kn : Mem → Option (Mem × Int32)) (hC : Ok C false cL_law 9 room_1 (some .boolean) RL (r0.1, Sum.inr (some (Value.int r0.2)))) (hSc : ScOK C b L xs) {ce sl : Nat} (hce : ce + 8 ≤ 601024) (hsl : sl + 48 ≤ 7293034) (hk : ∀ M : Mem, kn M = some r0 → J C (ce + 8) (sl + 48) M 1589 [(0, .ref b), (1, rf x1), (2, rf x2), (3, rf x3), (4, rf x4), (5, .int x5)] []) (M : Mem) (h : fL_case18 xs L x1 x2 x3 x4 x5 kn M = some r0) : J C ce sl M 1147 [(0, .ref b), (1, rf x1), (2, rf x2), (3, rf x3), (4, rf x4), (5, .int x5)] [] := by
  unfold fL_case18 at h
  refine J_aload_n (j := 1) hC dL_law_1147 rfl ?_
  refine J_aloadQ_n (j := 0) hC dL_law_1148 rfl ?_
  refine J_iload (j := 5) hC dL_law_1149 rfl ?_
  refine J_iconst (v := 1) hC dL_law_1151 (by decide) ?_
  refine J_iadd hC dL_law_1152 ?_
  refine J_sld hC hSc dL_law_1153 h (fun v163 _ h => ?_)
  refine J_aloadQ_n (j := 0) hC dL_law_1154 rfl ?_
  refine J_iload (j := 5) hC dL_law_1155 rfl ?_
  refine J_iconst (v := 2) hC dL_law_1157 (by decide) ?_
  refine J_iadd hC dL_law_1158 ?_
  refine J_sld hC hSc dL_law_1159 h (fun v164 _ h => ?_)
  refine J_aload_n (j := 3) hC dL_law_1160 rfl ?_
  refine bnd_c h (fun w165 hw h => ?_)
  refine J_callSW (As := [rf x1, .int v163, .int v164, rf x3]) (M' := w165.1) (rv := some (Value.int w165.2)) (st := []) hC (fun l hl => cL_best_ok M x1 v163 v164 x3 _ hw l hl) sm_L_best k_L_155 rfl ⟨Nat.le_of_ble_eq_true rfl, Nat.le_of_ble_eq_true rfl⟩ (Nat.zero_le _) ⟨show ce + 2 ≤ 601024 by omega, show sl + 12 ≤ 7293034 by omega⟩ dL_law_1161 rfl ?_
  refine J_istore (lv' := [(6, .int w165.2), (0, .ref b), (1, rf x1), (2, rf x2), (3, rf x3), (4, rf x4), (5, .int x5)]) hC dL_law_1164 (by decide) rfl ?_
  refine J_aload_n (j := 3) hC dL_law_1166 rfl ?_
  refine J_aloadQ_n (j := 1) hC dL_law_1167 rfl ?_
  refine J_iload (j := 6) hC dL_law_1168 rfl ?_
  refine J_iconst (v := 1) hC dL_law_1170 (by decide) ?_
  refine J_iadd hC dL_law_1171 ?_
  refine J_sld hC hSc dL_law_1172 h (fun v166 _ h => ?_)
  refine J_aloadQ_n (j := 1) hC dL_law_1173 rfl ?_
  refine J_iload (j := 6) hC dL_law_1174 rfl ?_
  refine J_iconst (v := 2) hC dL_law_1176 (by decide) ?_
  refine J_iadd hC dL_law_1177 ?_
  refine J_sld hC hSc dL_law_1178 h (fun v167 _ h => ?_)
  refine ck_c h (fun ho h => ?_)
  refine bnd_c h (fun w168 hw h => ?_)
  refine J_callV (As := [.int v166, .int v167]) (M' := w168.1) (rv := some (Value.int w168.2)) (st := []) hC (fun l hl => cX3_best_ok w165.1 x2 v166 v167 _ hw l hl) vm_X3_best k_L_157 ho ⟨rfl, rfl⟩ rfl ⟨Nat.le_of_ble_eq_true rfl, Nat.le_of_ble_eq_true rfl⟩ (Nat.zero_le _) ⟨show ce + 2 + 0 ≤ 601024 by omega, show sl + 12 + 0 ≤ 7293034 by omega⟩ dL_law_1179 rfl ?_
  refine J_istore (lv' := [(7, .int w168.2), (6, .int w165.2), (0, .ref b), (1, rf x1), (2, rf x2), (3, rf x3), (4, rf x4), (5, .int x5)]) hC dL_law_1182 (by decide) rfl ?_
  refine J_aload_n (j := 4) hC dL_law_1184 rfl ?_
  refine ck_c h (fun ho h => ?_)
  refine bnd_c h (fun w169 hw h => ?_)
  refine J_callV (As := []) (M' := w168.1) (rv := some (Value.int w169)) (st := []) hC (fun l hl => cX3_thrown_ok w168.1 x2 _ hw l hl) vm_X3_thrown k_L_95 ho ⟨rfl, rfl⟩ rfl ⟨Nat.le_of_ble_eq_true rfl, Nat.le_of_ble_eq_true rfl⟩ (Nat.zero_le _) ⟨show ce + 2 + 0 + 0 ≤ 601024 by omega, show sl + 12 + 0 + 0 ≤ 7293034 by omega⟩ dL_law_1185 rfl ?_
  refine J_iload (j := 1) hC dL_law_1188 rfl ?_
  refine J_icmp_eq (tgt := 1195) hC dL_law_1190 (by decide) (fun c170 => ?_) (fun c170 => ?_)
  · have h := ite_t c170 h
    refine J_iload (j := 1) hC dL_law_1195 rfl ?_
    refine J_if_ne (tgt := 1212) hC dL_law_1197 (by decide) (fun c171 => ?_) (fun c171 => ?_)
    · have h := ite_f c171 h
      refine J_goto (tgt := 1589) hC dL_law_1212 (by decide) ?_
      refine J_widen (k := ce + 8) (n := sl + 48) (show ce + 2 + 0 + 0 ≤ ce + 8 by omega) (show sl + 12 + 0 + 0 ≤ sl + 48 by omega) ?_
      refine J_sub [2, 3, 4, 5, 6, 7] rfl ?_
      exact hk w168.1 h
    · have h := ite_t c171 h
      refine J_aload_n (j := 5) hC dL_law_1200 rfl ?_
      refine J_iconst (v := 0) hC dL_law_1201 (by decide) ?_
      refine J_lald hC dL_law_1202 h (fun v172 _ h => ?_)
      refine J_iload (j := 0) hC dL_law_1203 rfl ?_
      refine J_i2l hC dL_law_1205 ?_
      refine J_lcmp hC dL_law_1206 ?_
      refine J_if_eq (tgt := 1212) hC dL_law_1207 (by decide) (fun c173 => ?_) (fun c173 => ?_)
      · have h := ite_t c173 h
        refine J_goto (tgt := 1589) hC dL_law_1212 (by decide) ?_
        refine J_widen (k := ce + 8) (n := sl + 48) (show ce + 2 + 0 + 0 ≤ ce + 8 by omega) (show sl + 12 + 0 + 0 ≤ sl + 48 by omega) ?_
        refine J_sub [2, 3, 4, 5, 6, 7] rfl ?_
        exact hk w168.1 h
      · have h := ite_f c173 h
        refine J_iconst (v := 0) hC dL_law_1210 (by decide) ?_
        exact J_zret hC dL_law_1211 (by decide) (by have h9 := Option.some.inj h; subst h9; rfl) (show ce + 2 + 0 + 0 ≤ 601024 by omega) (show sl + 12 + 0 + 0 ≤ 7293034 by omega)
  · have h := ite_f c170 h
    refine J_iconst (v := 0) hC dL_law_1193 (by decide) ?_
    exact J_zret hC dL_law_1194 (by decide) (by have h9 := Option.some.inj h; subst h9; rfl) (show ce + 2 + 0 + 0 ≤ 601024 by omega) (show sl + 12 + 0 + 0 ≤ 7293034 by omega)
set_option maxHeartbeats 4000000 in
set_option maxRecDepth 100000 in
theorem tL_case19 {C : JC} {r0 : Mem × Int32} {b : Nat} (xs : Nat → Int32) (L : Nat) (x1 x2 x3 x4 : Option Nat) (x5 : Int32) (kn : Mem → Option (Mem × Int32)) (hC : Ok C false cL_law 9 room_1 (some .boolean) RL (r0.1, Sum.inr (some (Value.int r0.2)))) (hSc : ScOK C b L xs) {ce sl : Nat} (hce : ce + 8 ≤ 601024) (hsl : sl + 48 ≤ 7293034) (hk : ∀ M : Mem, kn M = some r0 → J C (ce + 8) (sl + 48) M 1589 [(0, .ref b), (1, rf x1), (2, rf x2), (3, rf x3), (4, rf x4), (5, .int x5)] []) (M : Mem) (h : fL_case19 xs L x1 x2 x3 x4 x5 kn M = some r0) : J C ce sl M 1215 [(0, .ref b), (1, rf x1), (2, rf x2), (3, rf x3), (4, rf x4), (5, .int x5)] [] := by
  unfold fL_case19 at h
  refine J_aload_n (j := 1) hC dL_law_1215 rfl ?_
  refine J_aloadQ_n (j := 0) hC dL_law_1216 rfl ?_
  refine J_iload (j := 5) hC dL_law_1217 rfl ?_
  refine J_iconst (v := 1) hC dL_law_1219 (by decide) ?_
  refine J_iadd hC dL_law_1220 ?_
  refine J_sld hC hSc dL_law_1221 h (fun v174 _ h => ?_)
  refine J_aloadQ_n (j := 0) hC dL_law_1222 rfl ?_
  refine J_iload (j := 5) hC dL_law_1223 rfl ?_
  refine J_iconst (v := 2) hC dL_law_1225 (by decide) ?_
  refine J_iadd hC dL_law_1226 ?_
  refine J_sld hC hSc dL_law_1227 h (fun v175 _ h => ?_)
  refine J_aloadQ_n (j := 0) hC dL_law_1228 rfl ?_
  refine J_iload (j := 5) hC dL_law_1229 rfl ?_
  refine J_iconst (v := 3) hC dL_law_1231 (by decide) ?_
  refine J_iadd hC dL_law_1232 ?_
  refine J_sld hC hSc dL_law_1233 h (fun v176 _ h => ?_)
  refine J_aload_n (j := 3) hC dL_law_1234 rfl ?_
  refine bnd_c h (fun w177 hw h => ?_)
  refine J_callSW (As := [rf x1, .int v174, .int v175, .int v176, rf x3]) (M' := w177.1) (rv := some (Value.int w177.2)) (st := []) hC (fun l hl => cL_many_ok M x1 v174 v175 v176 x3 _ hw l hl) sm_L_many k_L_158 rfl ⟨Nat.le_of_ble_eq_true rfl, Nat.le_of_ble_eq_true rfl⟩ (Nat.zero_le _) ⟨show ce + 3 ≤ 601024 by omega, show sl + 18 ≤ 7293034 by omega⟩ dL_law_1235 rfl ?_
  refine J_istore (lv' := [(6, .int w177.2), (0, .ref b), (1, rf x1), (2, rf x2), (3, rf x3), (4, rf x4), (5, .int x5)]) hC dL_law_1238 (by decide) rfl ?_
  refine J_aload_n (j := 3) hC dL_law_1240 rfl ?_
  refine J_aloadQ_n (j := 1) hC dL_law_1241 rfl ?_
  refine J_iload (j := 6) hC dL_law_1242 rfl ?_
  refine J_iconst (v := 1) hC dL_law_1244 (by decide) ?_
  refine J_iadd hC dL_law_1245 ?_
  refine J_sld hC hSc dL_law_1246 h (fun v178 _ h => ?_)
  refine J_aloadQ_n (j := 1) hC dL_law_1247 rfl ?_
  refine J_iload (j := 6) hC dL_law_1248 rfl ?_
  refine J_iconst (v := 2) hC dL_law_1250 (by decide) ?_
  refine J_iadd hC dL_law_1251 ?_
  refine J_sld hC hSc dL_law_1252 h (fun v179 _ h => ?_)
  refine J_aloadQ_n (j := 1) hC dL_law_1253 rfl ?_
  refine J_iload (j := 6) hC dL_law_1254 rfl ?_
  refine J_iconst (v := 3) hC dL_law_1256 (by decide) ?_
  refine J_iadd hC dL_law_1257 ?_
  refine J_sld hC hSc dL_law_1258 h (fun v180 _ h => ?_)
  refine ck_c h (fun ho h => ?_)
  refine bnd_c h (fun w181 hw h => ?_)
  refine J_callV (As := [.int v178, .int v179, .int v180]) (M' := w181.1) (rv := some (Value.int w181.2)) (st := []) hC (fun l hl => cX3_many_ok w177.1 x2 v178 v179 v180 _ hw l hl) vm_X3_many k_L_160 ho ⟨rfl, rfl⟩ rfl ⟨Nat.le_of_ble_eq_true rfl, Nat.le_of_ble_eq_true rfl⟩ (Nat.zero_le _) ⟨show ce + 3 + 0 ≤ 601024 by omega, show sl + 18 + 0 ≤ 7293034 by omega⟩ dL_law_1259 rfl ?_
  refine J_istore (lv' := [(7, .int w181.2), (6, .int w177.2), (0, .ref b), (1, rf x1), (2, rf x2), (3, rf x3), (4, rf x4), (5, .int x5)]) hC dL_law_1262 (by decide) rfl ?_
  refine J_aload_n (j := 4) hC dL_law_1264 rfl ?_
  refine ck_c h (fun ho h => ?_)
  refine bnd_c h (fun w182 hw h => ?_)
  refine J_callV (As := []) (M' := w181.1) (rv := some (Value.int w182)) (st := []) hC (fun l hl => cX3_thrown_ok w181.1 x2 _ hw l hl) vm_X3_thrown k_L_95 ho ⟨rfl, rfl⟩ rfl ⟨Nat.le_of_ble_eq_true rfl, Nat.le_of_ble_eq_true rfl⟩ (Nat.zero_le _) ⟨show ce + 3 + 0 + 0 ≤ 601024 by omega, show sl + 18 + 0 + 0 ≤ 7293034 by omega⟩ dL_law_1265 rfl ?_
  refine J_iload (j := 1) hC dL_law_1268 rfl ?_
  refine J_icmp_eq (tgt := 1275) hC dL_law_1270 (by decide) (fun c183 => ?_) (fun c183 => ?_)
  · have h := ite_t c183 h
    refine J_iload (j := 1) hC dL_law_1275 rfl ?_
    refine J_if_ne (tgt := 1292) hC dL_law_1277 (by decide) (fun c184 => ?_) (fun c184 => ?_)
    · have h := ite_f c184 h
      refine J_goto (tgt := 1589) hC dL_law_1292 (by decide) ?_
      refine J_widen (k := ce + 8) (n := sl + 48) (show ce + 3 + 0 + 0 ≤ ce + 8 by omega) (show sl + 18 + 0 + 0 ≤ sl + 48 by omega) ?_
      refine J_sub [2, 3, 4, 5, 6, 7] rfl ?_
      exact hk w181.1 h
    · have h := ite_t c184 h
      refine J_aload_n (j := 5) hC dL_law_1280 rfl ?_
      refine J_iconst (v := 0) hC dL_law_1281 (by decide) ?_
      refine J_lald hC dL_law_1282 h (fun v185 _ h => ?_)
      refine J_iload (j := 0) hC dL_law_1283 rfl ?_
      refine J_i2l hC dL_law_1285 ?_
      refine J_lcmp hC dL_law_1286 ?_
      refine J_if_eq (tgt := 1292) hC dL_law_1287 (by decide) (fun c186 => ?_) (fun c186 => ?_)
      · have h := ite_t c186 h
        refine J_goto (tgt := 1589) hC dL_law_1292 (by decide) ?_
        refine J_widen (k := ce + 8) (n := sl + 48) (show ce + 3 + 0 + 0 ≤ ce + 8 by omega) (show sl + 18 + 0 + 0 ≤ sl + 48 by omega) ?_
        refine J_sub [2, 3, 4, 5, 6, 7] rfl ?_
        exact hk w181.1 h
      · have h := ite_f c186 h
        refine J_iconst (v := 0) hC dL_law_1290 (by decide) ?_
        exact J_zret hC dL_law_1291 (by decide) (by have h9 := Option.some.inj h; subst h9; rfl) (show ce + 3 + 0 + 0 ≤ 601024 by omega) (show sl + 18 + 0 + 0 ≤ 7293034 by omega)
  · have h := ite_f c183 h
    refine J_iconst (v := 0) hC dL_law_1273 (by decide) ?_
    exact J_zret hC dL_law_1274 (by decide) (by have h9 := Option.some.inj h; subst h9; rfl) (show ce + 3 + 0 + 0 ≤ 601024 by omega) (show sl + 18 + 0 + 0 ≤ 7293034 by omega)
set_option maxHeartbeats 4000000 in
set_option maxRecDepth 100000 in
theorem tL_case20 {C : JC} {r0 : Mem × Int32} {b : Nat} (xs : Nat → Int32) (L : Nat) (x1 x2 x3 x4 : Option Nat) (x5 : Int32) (kn : Mem → Option (Mem × Int32)) (hC : Ok C false cL_law 9 room_1 (some .boolean) RL (r0.1, Sum.inr (some (Value.int r0.2)))) (hSc : ScOK C b L xs) {ce sl : Nat} (hce : ce + 8 ≤ 601024) (hsl : sl + 48 ≤ 7293034) (hk : ∀ M : Mem, kn M = some r0 → J C (ce + 8) (sl + 48) M 1589 [(0, .ref b), (1, rf x1), (2, rf x2), (3, rf x3), (4, rf x4), (5, .int x5)] []) (M : Mem) (h : fL_case20 xs L x1 x2 x3 x4 x5 kn M = some r0) : J C ce sl M 1295 [(0, .ref b), (1, rf x1), (2, rf x2), (3, rf x3), (4, rf x4), (5, .int x5)] [] := by
  unfold fL_case20 at h
  refine J_aload_n (j := 1) hC dL_law_1295 rfl ?_
  refine J_aloadQ_n (j := 0) hC dL_law_1296 rfl ?_
  refine J_iload (j := 5) hC dL_law_1297 rfl ?_
  refine J_iconst (v := 1) hC dL_law_1299 (by decide) ?_
  refine J_iadd hC dL_law_1300 ?_
  refine J_sld hC hSc dL_law_1301 h (fun v187 _ h => ?_)
  refine J_aloadQ_n (j := 0) hC dL_law_1302 rfl ?_
  refine J_iload (j := 5) hC dL_law_1303 rfl ?_
  refine J_iconst (v := 2) hC dL_law_1305 (by decide) ?_
  refine J_iadd hC dL_law_1306 ?_
  refine J_sld hC hSc dL_law_1307 h (fun v188 _ h => ?_)
  refine J_aloadQ_n (j := 0) hC dL_law_1308 rfl ?_
  refine J_iload (j := 5) hC dL_law_1309 rfl ?_
  refine J_iconst (v := 3) hC dL_law_1311 (by decide) ?_
  refine J_iadd hC dL_law_1312 ?_
  refine J_sld hC hSc dL_law_1313 h (fun v189 _ h => ?_)
  refine J_aloadQ_n (j := 0) hC dL_law_1314 rfl ?_
  refine J_iload (j := 5) hC dL_law_1315 rfl ?_
  refine J_iconst (v := 4) hC dL_law_1317 (by decide) ?_
  refine J_iadd hC dL_law_1318 ?_
  refine J_sld hC hSc dL_law_1319 h (fun v190 _ h => ?_)
  refine J_aload_n (j := 3) hC dL_law_1320 rfl ?_
  refine bnd_c h (fun w191 hw h => ?_)
  refine J_callSW (As := [rf x1, .int v187, .int v188, .int v189, .int v190, rf x3]) (M' := w191.1) (rv := some (Value.int w191.2)) (st := []) hC (fun l hl => cL_isIn_ok M x1 v187 v188 v189 v190 x3 _ hw l hl) sm_L_isIn k_L_161 rfl ⟨Nat.le_of_ble_eq_true rfl, Nat.le_of_ble_eq_true rfl⟩ (Nat.zero_le _) ⟨show ce + 4 ≤ 601024 by omega, show sl + 24 ≤ 7293034 by omega⟩ dL_law_1321 rfl ?_
  refine J_istore (lv' := [(6, .int w191.2), (0, .ref b), (1, rf x1), (2, rf x2), (3, rf x3), (4, rf x4), (5, .int x5)]) hC dL_law_1324 (by decide) rfl ?_
  refine J_aload_n (j := 3) hC dL_law_1326 rfl ?_
  refine J_aloadQ_n (j := 1) hC dL_law_1327 rfl ?_
  refine J_iload (j := 6) hC dL_law_1328 rfl ?_
  refine J_iconst (v := 1) hC dL_law_1330 (by decide) ?_
  refine J_iadd hC dL_law_1331 ?_
  refine J_sld hC hSc dL_law_1332 h (fun v192 _ h => ?_)
  refine J_aloadQ_n (j := 1) hC dL_law_1333 rfl ?_
  refine J_iload (j := 6) hC dL_law_1334 rfl ?_
  refine J_iconst (v := 2) hC dL_law_1336 (by decide) ?_
  refine J_iadd hC dL_law_1337 ?_
  refine J_sld hC hSc dL_law_1338 h (fun v193 _ h => ?_)
  refine J_aloadQ_n (j := 1) hC dL_law_1339 rfl ?_
  refine J_iload (j := 6) hC dL_law_1340 rfl ?_
  refine J_iconst (v := 3) hC dL_law_1342 (by decide) ?_
  refine J_iadd hC dL_law_1343 ?_
  refine J_sld hC hSc dL_law_1344 h (fun v194 _ h => ?_)
  refine J_aloadQ_n (j := 1) hC dL_law_1345 rfl ?_
  refine J_iload (j := 6) hC dL_law_1346 rfl ?_
  refine J_iconst (v := 4) hC dL_law_1348 (by decide) ?_
  refine J_iadd hC dL_law_1349 ?_
  refine J_sld hC hSc dL_law_1350 h (fun v195 _ h => ?_)
  refine ck_c h (fun ho h => ?_)
  refine bnd_c h (fun w196 hw h => ?_)
  refine J_callV (As := [.int v192, .int v193, .int v194, .int v195]) (M' := w196.1) (rv := some (Value.int w196.2)) (st := []) hC (fun l hl => cX3_isIn_ok w191.1 x2 v192 v193 v194 v195 _ hw l hl) vm_X3_isIn k_L_164 ho ⟨rfl, rfl⟩ rfl ⟨Nat.le_of_ble_eq_true rfl, Nat.le_of_ble_eq_true rfl⟩ (Nat.zero_le _) ⟨show ce + 4 + 0 ≤ 601024 by omega, show sl + 24 + 0 ≤ 7293034 by omega⟩ dL_law_1351 rfl ?_
  refine J_istore (lv' := [(7, .int w196.2), (6, .int w191.2), (0, .ref b), (1, rf x1), (2, rf x2), (3, rf x3), (4, rf x4), (5, .int x5)]) hC dL_law_1354 (by decide) rfl ?_
  refine J_aload_n (j := 4) hC dL_law_1356 rfl ?_
  refine ck_c h (fun ho h => ?_)
  refine bnd_c h (fun w197 hw h => ?_)
  refine J_callV (As := []) (M' := w196.1) (rv := some (Value.int w197)) (st := []) hC (fun l hl => cX3_thrown_ok w196.1 x2 _ hw l hl) vm_X3_thrown k_L_95 ho ⟨rfl, rfl⟩ rfl ⟨Nat.le_of_ble_eq_true rfl, Nat.le_of_ble_eq_true rfl⟩ (Nat.zero_le _) ⟨show ce + 4 + 0 + 0 ≤ 601024 by omega, show sl + 24 + 0 + 0 ≤ 7293034 by omega⟩ dL_law_1357 rfl ?_
  refine J_iload (j := 1) hC dL_law_1360 rfl ?_
  refine J_icmp_eq (tgt := 1367) hC dL_law_1362 (by decide) (fun c198 => ?_) (fun c198 => ?_)
  · have h := ite_t c198 h
    refine J_iload (j := 1) hC dL_law_1367 rfl ?_
    refine J_if_ne (tgt := 1384) hC dL_law_1369 (by decide) (fun c199 => ?_) (fun c199 => ?_)
    · have h := ite_f c199 h
      refine J_goto (tgt := 1589) hC dL_law_1384 (by decide) ?_
      refine J_widen (k := ce + 8) (n := sl + 48) (show ce + 4 + 0 + 0 ≤ ce + 8 by omega) (show sl + 24 + 0 + 0 ≤ sl + 48 by omega) ?_
      refine J_sub [2, 3, 4, 5, 6, 7] rfl ?_
      exact hk w196.1 h
    · have h := ite_t c199 h
      refine J_aload_n (j := 5) hC dL_law_1372 rfl ?_
      refine J_iconst (v := 0) hC dL_law_1373 (by decide) ?_
      refine J_lald hC dL_law_1374 h (fun v200 _ h => ?_)
      refine J_iload (j := 0) hC dL_law_1375 rfl ?_
      refine J_i2l hC dL_law_1377 ?_
      refine J_lcmp hC dL_law_1378 ?_
      refine J_if_eq (tgt := 1384) hC dL_law_1379 (by decide) (fun c201 => ?_) (fun c201 => ?_)
      · have h := ite_t c201 h
        refine J_goto (tgt := 1589) hC dL_law_1384 (by decide) ?_
        refine J_widen (k := ce + 8) (n := sl + 48) (show ce + 4 + 0 + 0 ≤ ce + 8 by omega) (show sl + 24 + 0 + 0 ≤ sl + 48 by omega) ?_
        refine J_sub [2, 3, 4, 5, 6, 7] rfl ?_
        exact hk w196.1 h
      · have h := ite_f c201 h
        refine J_iconst (v := 0) hC dL_law_1382 (by decide) ?_
        exact J_zret hC dL_law_1383 (by decide) (by have h9 := Option.some.inj h; subst h9; rfl) (show ce + 4 + 0 + 0 ≤ 601024 by omega) (show sl + 24 + 0 + 0 ≤ 7293034 by omega)
  · have h := ite_f c198 h
    refine J_iconst (v := 0) hC dL_law_1365 (by decide) ?_
    exact J_zret hC dL_law_1366 (by decide) (by have h9 := Option.some.inj h; subst h9; rfl) (show ce + 4 + 0 + 0 ≤ 601024 by omega) (show sl + 24 + 0 + 0 ≤ 7293034 by omega)
set_option maxHeartbeats 4000000 in
set_option maxRecDepth 100000 in
theorem tL_case21 {C : JC} {r0 : Mem × Int32} {b : Nat} (xs : Nat → Int32) (L : Nat) (x1 x2 x3 x4 : Option Nat) (x5 : Int32) (kn : Mem → Option (Mem × Int32)) (hC : Ok C false cL_law 9 room_1 (some .boolean) RL (r0.1, Sum.inr (some (Value.int r0.2)))) (hSc : ScOK C b L xs) {ce sl : Nat} (hce : ce + 8 ≤ 601024) (hsl : sl + 48 ≤ 7293034) (hk : ∀ M : Mem, kn M = some r0 → J C (ce + 8) (sl + 48) M 1589 [(0, .ref b), (1, rf x1), (2, rf x2), (3, rf x3), (4, rf x4), (5, .int x5)] []) (M : Mem) (h : fL_case21 xs L x1 x2 x3 x4 x5 kn M = some r0) : J C ce sl M 1387 [(0, .ref b), (1, rf x1), (2, rf x2), (3, rf x3), (4, rf x4), (5, .int x5)] [] := by
  unfold fL_case21 at h
  refine J_aload_n (j := 1) hC dL_law_1387 rfl ?_
  refine J_aloadQ_n (j := 0) hC dL_law_1388 rfl ?_
  refine J_iload (j := 5) hC dL_law_1389 rfl ?_
  refine J_iconst (v := 1) hC dL_law_1391 (by decide) ?_
  refine J_iadd hC dL_law_1392 ?_
  refine J_sld hC hSc dL_law_1393 h (fun v202 _ h => ?_)
  refine J_aload_n (j := 3) hC dL_law_1394 rfl ?_
  refine bnd_c h (fun w203 hw h => ?_)
  refine J_callSW (As := [rf x1, .int v202, rf x3]) (M' := w203.1) (rv := some (Value.int w203.2)) (st := []) hC (fun l hl => cL_coefficient_ok M x1 v202 x3 _ hw l hl) sm_L_coefficient k_L_165 rfl ⟨Nat.le_of_ble_eq_true rfl, Nat.le_of_ble_eq_true rfl⟩ (Nat.zero_le _) ⟨show ce + 1 ≤ 601024 by omega, show sl + 6 ≤ 7293034 by omega⟩ dL_law_1395 rfl ?_
  refine J_istore (lv' := [(6, .int w203.2), (0, .ref b), (1, rf x1), (2, rf x2), (3, rf x3), (4, rf x4), (5, .int x5)]) hC dL_law_1398 (by decide) rfl ?_
  refine J_aload_n (j := 3) hC dL_law_1400 rfl ?_
  refine J_aloadQ_n (j := 1) hC dL_law_1401 rfl ?_
  refine J_iload (j := 6) hC dL_law_1402 rfl ?_
  refine J_iconst (v := 1) hC dL_law_1404 (by decide) ?_
  refine J_iadd hC dL_law_1405 ?_
  refine J_sld hC hSc dL_law_1406 h (fun v204 _ h => ?_)
  refine ck_c h (fun ho h => ?_)
  refine bnd_c h (fun w205 hw h => ?_)
  refine J_callV (As := [.int v204]) (M' := w205.1) (rv := some (Value.long w205.2)) (st := []) hC (fun l hl => cX3_coefficient_ok w203.1 x2 v204 _ hw l hl) vm_X3_coefficient k_L_167 ho ⟨rfl, rfl⟩ rfl ⟨Nat.le_of_ble_eq_true rfl, Nat.le_of_ble_eq_true rfl⟩ (Nat.zero_le _) ⟨show ce + 1 + 0 ≤ 601024 by omega, show sl + 6 + 0 ≤ 7293034 by omega⟩ dL_law_1407 rfl ?_
  refine J_lstore (lv' := [(7, .long w205.2), (6, .int w203.2), (0, .ref b), (1, rf x1), (2, rf x2), (3, rf x3), (4, rf x4), (5, .int x5)]) hC dL_law_1410 (by decide) rfl ?_
  refine J_aload_n (j := 4) hC dL_law_1412 rfl ?_
  refine ck_c h (fun ho h => ?_)
  refine bnd_c h (fun w206 hw h => ?_)
  refine J_callV (As := []) (M' := w205.1) (rv := some (Value.int w206)) (st := []) hC (fun l hl => cX3_thrown_ok w205.1 x2 _ hw l hl) vm_X3_thrown k_L_95 ho ⟨rfl, rfl⟩ rfl ⟨Nat.le_of_ble_eq_true rfl, Nat.le_of_ble_eq_true rfl⟩ (Nat.zero_le _) ⟨show ce + 1 + 0 + 0 ≤ 601024 by omega, show sl + 6 + 0 + 0 ≤ 7293034 by omega⟩ dL_law_1413 rfl ?_
  refine J_iload (j := 1) hC dL_law_1416 rfl ?_
  refine J_icmp_eq (tgt := 1423) hC dL_law_1418 (by decide) (fun c207 => ?_) (fun c207 => ?_)
  · have h := ite_t c207 h
    refine J_iload (j := 1) hC dL_law_1423 rfl ?_
    refine J_if_ne (tgt := 1439) hC dL_law_1425 (by decide) (fun c208 => ?_) (fun c208 => ?_)
    · have h := ite_f c208 h
      refine J_goto (tgt := 1589) hC dL_law_1439 (by decide) ?_
      refine J_widen (k := ce + 8) (n := sl + 48) (show ce + 1 + 0 + 0 ≤ ce + 8 by omega) (show sl + 6 + 0 + 0 ≤ sl + 48 by omega) ?_
      refine J_sub [2, 3, 4, 5, 6, 7] rfl ?_
      exact hk w205.1 h
    · have h := ite_t c208 h
      refine J_aload_n (j := 5) hC dL_law_1428 rfl ?_
      refine J_iconst (v := 0) hC dL_law_1429 (by decide) ?_
      refine J_lald hC dL_law_1430 h (fun v209 _ h => ?_)
      refine J_lload (j := 0) hC dL_law_1431 rfl ?_
      refine J_lcmp hC dL_law_1433 ?_
      refine J_if_eq (tgt := 1439) hC dL_law_1434 (by decide) (fun c210 => ?_) (fun c210 => ?_)
      · have h := ite_t c210 h
        refine J_goto (tgt := 1589) hC dL_law_1439 (by decide) ?_
        refine J_widen (k := ce + 8) (n := sl + 48) (show ce + 1 + 0 + 0 ≤ ce + 8 by omega) (show sl + 6 + 0 + 0 ≤ sl + 48 by omega) ?_
        refine J_sub [2, 3, 4, 5, 6, 7] rfl ?_
        exact hk w205.1 h
      · have h := ite_f c210 h
        refine J_iconst (v := 0) hC dL_law_1437 (by decide) ?_
        exact J_zret hC dL_law_1438 (by decide) (by have h9 := Option.some.inj h; subst h9; rfl) (show ce + 1 + 0 + 0 ≤ 601024 by omega) (show sl + 6 + 0 + 0 ≤ 7293034 by omega)
  · have h := ite_f c207 h
    refine J_iconst (v := 0) hC dL_law_1421 (by decide) ?_
    exact J_zret hC dL_law_1422 (by decide) (by have h9 := Option.some.inj h; subst h9; rfl) (show ce + 1 + 0 + 0 ≤ 601024 by omega) (show sl + 6 + 0 + 0 ≤ 7293034 by omega)
set_option maxHeartbeats 4000000 in
set_option maxRecDepth 100000 in
theorem tL_case22 {C : JC} {r0 : Mem × Int32} {b : Nat} (xs : Nat → Int32) (L : Nat) (x1 x2 x3 x4 : Option Nat) (x5 : Int32) (kn : Mem → Option (Mem × Int32)) (hC : Ok C false cL_law 9 room_1 (some .boolean) RL (r0.1, Sum.inr (some (Value.int r0.2)))) (hSc : ScOK C b L xs) {ce sl : Nat} (hce : ce + 8 ≤ 601024) (hsl : sl + 48 ≤ 7293034) (hk : ∀ M : Mem, kn M = some r0 → J C (ce + 8) (sl + 48) M 1589 [(0, .ref b), (1, rf x1), (2, rf x2), (3, rf x3), (4, rf x4), (5, .int x5)] []) (M : Mem) (h : fL_case22 xs L x1 x2 x3 x4 x5 kn M = some r0) : J C ce sl M 1442 [(0, .ref b), (1, rf x1), (2, rf x2), (3, rf x3), (4, rf x4), (5, .int x5)] [] := by
  unfold fL_case22 at h
  refine J_aload_n (j := 1) hC dL_law_1442 rfl ?_
  refine J_aloadQ_n (j := 0) hC dL_law_1443 rfl ?_
  refine J_iload (j := 5) hC dL_law_1444 rfl ?_
  refine J_iconst (v := 1) hC dL_law_1446 (by decide) ?_
  refine J_iadd hC dL_law_1447 ?_
  refine J_sld hC hSc dL_law_1448 h (fun v211 _ h => ?_)
  refine J_aload_n (j := 3) hC dL_law_1449 rfl ?_
  refine bnd_c h (fun w212 hw h => ?_)
  refine J_callSW (As := [rf x1, .int v211, rf x3]) (M' := w212.1) (rv := some (Value.int w212.2)) (st := []) hC (fun l hl => cL_count_ok M x1 v211 x3 _ hw l hl) sm_L_count k_L_168 rfl ⟨Nat.le_of_ble_eq_true rfl, Nat.le_of_ble_eq_true rfl⟩ (Nat.zero_le _) ⟨show ce + 1 ≤ 601024 by omega, show sl + 6 ≤ 7293034 by omega⟩ dL_law_1450 rfl ?_
  refine J_istore (lv' := [(6, .int w212.2), (0, .ref b), (1, rf x1), (2, rf x2), (3, rf x3), (4, rf x4), (5, .int x5)]) hC dL_law_1453 (by decide) rfl ?_
  refine J_aload_n (j := 3) hC dL_law_1455 rfl ?_
  refine J_aloadQ_n (j := 1) hC dL_law_1456 rfl ?_
  refine J_iload (j := 6) hC dL_law_1457 rfl ?_
  refine J_iconst (v := 1) hC dL_law_1459 (by decide) ?_
  refine J_iadd hC dL_law_1460 ?_
  refine J_sld hC hSc dL_law_1461 h (fun v213 _ h => ?_)
  refine ck_c h (fun ho h => ?_)
  refine bnd_c h (fun w214 hw h => ?_)
  refine J_callV (As := [.int v213]) (M' := w214.1) (rv := some (Value.int w214.2)) (st := []) hC (fun l hl => cX3_count_ok w212.1 x2 v213 _ hw l hl) vm_X3_count k_L_170 ho ⟨rfl, rfl⟩ rfl ⟨Nat.le_of_ble_eq_true rfl, Nat.le_of_ble_eq_true rfl⟩ (Nat.zero_le _) ⟨show ce + 1 + 0 ≤ 601024 by omega, show sl + 6 + 0 ≤ 7293034 by omega⟩ dL_law_1462 rfl ?_
  refine J_istore (lv' := [(7, .int w214.2), (6, .int w212.2), (0, .ref b), (1, rf x1), (2, rf x2), (3, rf x3), (4, rf x4), (5, .int x5)]) hC dL_law_1465 (by decide) rfl ?_
  refine J_aload_n (j := 4) hC dL_law_1467 rfl ?_
  refine ck_c h (fun ho h => ?_)
  refine bnd_c h (fun w215 hw h => ?_)
  refine J_callV (As := []) (M' := w214.1) (rv := some (Value.int w215)) (st := []) hC (fun l hl => cX3_thrown_ok w214.1 x2 _ hw l hl) vm_X3_thrown k_L_95 ho ⟨rfl, rfl⟩ rfl ⟨Nat.le_of_ble_eq_true rfl, Nat.le_of_ble_eq_true rfl⟩ (Nat.zero_le _) ⟨show ce + 1 + 0 + 0 ≤ 601024 by omega, show sl + 6 + 0 + 0 ≤ 7293034 by omega⟩ dL_law_1468 rfl ?_
  refine J_iload (j := 1) hC dL_law_1471 rfl ?_
  refine J_icmp_eq (tgt := 1478) hC dL_law_1473 (by decide) (fun c216 => ?_) (fun c216 => ?_)
  · have h := ite_t c216 h
    refine J_iload (j := 1) hC dL_law_1478 rfl ?_
    refine J_if_ne (tgt := 1495) hC dL_law_1480 (by decide) (fun c217 => ?_) (fun c217 => ?_)
    · have h := ite_f c217 h
      refine J_goto (tgt := 1589) hC dL_law_1495 (by decide) ?_
      refine J_widen (k := ce + 8) (n := sl + 48) (show ce + 1 + 0 + 0 ≤ ce + 8 by omega) (show sl + 6 + 0 + 0 ≤ sl + 48 by omega) ?_
      refine J_sub [2, 3, 4, 5, 6, 7] rfl ?_
      exact hk w214.1 h
    · have h := ite_t c217 h
      refine J_aload_n (j := 5) hC dL_law_1483 rfl ?_
      refine J_iconst (v := 0) hC dL_law_1484 (by decide) ?_
      refine J_lald hC dL_law_1485 h (fun v218 _ h => ?_)
      refine J_iload (j := 0) hC dL_law_1486 rfl ?_
      refine J_i2l hC dL_law_1488 ?_
      refine J_lcmp hC dL_law_1489 ?_
      refine J_if_eq (tgt := 1495) hC dL_law_1490 (by decide) (fun c219 => ?_) (fun c219 => ?_)
      · have h := ite_t c219 h
        refine J_goto (tgt := 1589) hC dL_law_1495 (by decide) ?_
        refine J_widen (k := ce + 8) (n := sl + 48) (show ce + 1 + 0 + 0 ≤ ce + 8 by omega) (show sl + 6 + 0 + 0 ≤ sl + 48 by omega) ?_
        refine J_sub [2, 3, 4, 5, 6, 7] rfl ?_
        exact hk w214.1 h
      · have h := ite_f c219 h
        refine J_iconst (v := 0) hC dL_law_1493 (by decide) ?_
        exact J_zret hC dL_law_1494 (by decide) (by have h9 := Option.some.inj h; subst h9; rfl) (show ce + 1 + 0 + 0 ≤ 601024 by omega) (show sl + 6 + 0 + 0 ≤ 7293034 by omega)
  · have h := ite_f c216 h
    refine J_iconst (v := 0) hC dL_law_1476 (by decide) ?_
    exact J_zret hC dL_law_1477 (by decide) (by have h9 := Option.some.inj h; subst h9; rfl) (show ce + 1 + 0 + 0 ≤ 601024 by omega) (show sl + 6 + 0 + 0 ≤ 7293034 by omega)
set_option maxHeartbeats 4000000 in
set_option maxRecDepth 100000 in
theorem tL_case23 {C : JC} {r0 : Mem × Int32} {b : Nat} (xs : Nat → Int32) (L : Nat) (x1 x2 x3 x4 : Option Nat) (x5 : Int32) (kn : Mem → Option (Mem × Int32)) (hC : Ok C false cL_law 9 room_1 (some .boolean) RL (r0.1, Sum.inr (some (Value.int r0.2)))) (hSc : ScOK C b L xs) {ce sl : Nat} (hce : ce + 8 ≤ 601024) (hsl : sl + 48 ≤ 7293034) (hk : ∀ M : Mem, kn M = some r0 → J C (ce + 8) (sl + 48) M 1589 [(0, .ref b), (1, rf x1), (2, rf x2), (3, rf x3), (4, rf x4), (5, .int x5)] []) (M : Mem) (h : fL_case23 xs L x1 x2 x3 x4 x5 kn M = some r0) : J C ce sl M 1498 [(0, .ref b), (1, rf x1), (2, rf x2), (3, rf x3), (4, rf x4), (5, .int x5)] [] := by
  unfold fL_case23 at h
  refine J_aload_n (j := 1) hC dL_law_1498 rfl ?_
  refine J_aloadQ_n (j := 0) hC dL_law_1499 rfl ?_
  refine J_iload (j := 5) hC dL_law_1500 rfl ?_
  refine J_iconst (v := 1) hC dL_law_1502 (by decide) ?_
  refine J_iadd hC dL_law_1503 ?_
  refine J_sld hC hSc dL_law_1504 h (fun v220 _ h => ?_)
  refine J_aload (j := 4) hC dL_law_1505 rfl ?_
  refine bnd_c h (fun w221 hw h => ?_)
  refine J_callSW (As := [rf x1, .int v220, rf x4]) (M' := w221.1) (rv := some (Value.int w221.2)) (st := []) hC (fun l hl => cL_takenShare_ok M x1 v220 x4 _ hw l hl) sm_L_takenShare k_L_171 rfl ⟨Nat.le_of_ble_eq_true rfl, Nat.le_of_ble_eq_true rfl⟩ (Nat.zero_le _) ⟨show ce + 1 ≤ 601024 by omega, show sl + 6 ≤ 7293034 by omega⟩ dL_law_1507 rfl ?_
  refine J_istore (lv' := [(6, .int w221.2), (0, .ref b), (1, rf x1), (2, rf x2), (3, rf x3), (4, rf x4), (5, .int x5)]) hC dL_law_1510 (by decide) rfl ?_
  refine J_aload_n (j := 3) hC dL_law_1512 rfl ?_
  refine J_aloadQ_n (j := 1) hC dL_law_1513 rfl ?_
  refine J_iload (j := 6) hC dL_law_1514 rfl ?_
  refine J_iconst (v := 1) hC dL_law_1516 (by decide) ?_
  refine J_iadd hC dL_law_1517 ?_
  refine J_sld hC hSc dL_law_1518 h (fun v222 _ h => ?_)
  refine ck_c h (fun ho h => ?_)
  refine bnd_c h (fun w223 hw h => ?_)
  refine J_callV (As := [.int v222]) (M' := w223.1) (rv := some (Value.double w223.2)) (st := []) hC (fun l hl => cX3_takenShare_ok w221.1 x2 v222 _ hw l hl) vm_X3_takenShare k_L_174 ho ⟨rfl, rfl⟩ rfl ⟨Nat.le_of_ble_eq_true rfl, Nat.le_of_ble_eq_true rfl⟩ (Nat.zero_le _) ⟨show ce + 1 + 0 ≤ 601024 by omega, show sl + 6 + 0 ≤ 7293034 by omega⟩ dL_law_1519 rfl ?_
  refine J_dstore (lv' := [(7, .double w223.2), (6, .int w221.2), (0, .ref b), (1, rf x1), (2, rf x2), (3, rf x3), (4, rf x4), (5, .int x5)]) hC dL_law_1522 (by decide) rfl ?_
  refine J_aload_n (j := 4) hC dL_law_1524 rfl ?_
  refine ck_c h (fun ho h => ?_)
  refine bnd_c h (fun w224 hw h => ?_)
  refine J_callV (As := []) (M' := w223.1) (rv := some (Value.int w224)) (st := []) hC (fun l hl => cX3_thrown_ok w223.1 x2 _ hw l hl) vm_X3_thrown k_L_95 ho ⟨rfl, rfl⟩ rfl ⟨Nat.le_of_ble_eq_true rfl, Nat.le_of_ble_eq_true rfl⟩ (Nat.zero_le _) ⟨show ce + 1 + 0 + 0 ≤ 601024 by omega, show sl + 6 + 0 + 0 ≤ 7293034 by omega⟩ dL_law_1525 rfl ?_
  refine J_iload (j := 1) hC dL_law_1528 rfl ?_
  refine J_icmp_eq (tgt := 1535) hC dL_law_1530 (by decide) (fun c225 => ?_) (fun c225 => ?_)
  · have h := ite_t c225 h
    refine J_iload (j := 1) hC dL_law_1535 rfl ?_
    refine J_if_ne (tgt := 1572) hC dL_law_1537 (by decide) (fun c226 => ?_) (fun c226 => ?_)
    · have h := ite_f c226 h
      refine J_goto (tgt := 1589) hC dL_law_1572 (by decide) ?_
      refine J_widen (k := ce + 8) (n := sl + 48) (show ce + 1 + 0 + 0 ≤ ce + 8 by omega) (show sl + 6 + 0 + 0 ≤ sl + 48 by omega) ?_
      refine J_sub [2, 3, 4, 5, 6, 7] rfl ?_
      exact hk w223.1 h
    · have h := ite_t c226 h
      refine J_aload (j := 6) hC dL_law_1540 rfl ?_
      refine J_iconst (v := 0) hC dL_law_1542 (by decide) ?_
      refine J_dald hC dL_law_1543 h (fun v227 _ h => ?_)
      refine J_dload (j := 0) hC dL_law_1544 rfl ?_
      refine J_dcmp hC dL_law_1546 ?_
      refine J_if_eq (tgt := 1572) hC dL_law_1547 (by decide) (fun c228 => ?_) (fun c228 => ?_)
      · have h := ite_t c228 h
        refine J_goto (tgt := 1589) hC dL_law_1572 (by decide) ?_
        refine J_widen (k := ce + 8) (n := sl + 48) (show ce + 1 + 0 + 0 ≤ ce + 8 by omega) (show sl + 6 + 0 + 0 ≤ sl + 48 by omega) ?_
        refine J_sub [2, 3, 4, 5, 6, 7] rfl ?_
        exact hk w223.1 h
      · have h := ite_f c228 h
        refine J_aload (j := 6) hC dL_law_1550 rfl ?_
        refine J_iconst (v := 0) hC dL_law_1552 (by decide) ?_
        refine J_dald hC dL_law_1553 h (fun v229 _ h => ?_)
        refine J_aload (j := 6) hC dL_law_1554 rfl ?_
        refine J_iconst (v := 0) hC dL_law_1556 (by decide) ?_
        refine J_dald hC dL_law_1557 h (fun v230 _ h => ?_)
        refine J_dcmp hC dL_law_1558 ?_
        refine J_if_eq (tgt := 1570) hC dL_law_1559 (by decide) (fun c231 => ?_) (fun c231 => ?_)
        · have h := ite_t c231 h
          refine J_iconst (v := 0) hC dL_law_1570 (by decide) ?_
          exact J_zret hC dL_law_1571 (by decide) (by have h9 := Option.some.inj h; subst h9; rfl) (show ce + 1 + 0 + 0 ≤ 601024 by omega) (show sl + 6 + 0 + 0 ≤ 7293034 by omega)
        · have h := ite_f c231 h
          refine J_dload (j := 0) hC dL_law_1562 rfl ?_
          refine J_dload (j := 0) hC dL_law_1564 rfl ?_
          refine J_dcmp hC dL_law_1566 ?_
          refine J_if_ne (tgt := 1572) hC dL_law_1567 (by decide) (fun c232 => ?_) (fun c232 => ?_)
          · have h := ite_f c232 h
            refine J_goto (tgt := 1589) hC dL_law_1572 (by decide) ?_
            refine J_widen (k := ce + 8) (n := sl + 48) (show ce + 1 + 0 + 0 ≤ ce + 8 by omega) (show sl + 6 + 0 + 0 ≤ sl + 48 by omega) ?_
            refine J_sub [2, 3, 4, 5, 6, 7] rfl ?_
            exact hk w223.1 h
          · have h := ite_t c232 h
            refine J_iconst (v := 0) hC dL_law_1570 (by decide) ?_
            exact J_zret hC dL_law_1571 (by decide) (by have h9 := Option.some.inj h; subst h9; rfl) (show ce + 1 + 0 + 0 ≤ 601024 by omega) (show sl + 6 + 0 + 0 ≤ 7293034 by omega)
  · have h := ite_f c225 h
    refine J_iconst (v := 0) hC dL_law_1533 (by decide) ?_
    exact J_zret hC dL_law_1534 (by decide) (by have h9 := Option.some.inj h; subst h9; rfl) (show ce + 1 + 0 + 0 ≤ 601024 by omega) (show sl + 6 + 0 + 0 ≤ 7293034 by omega)
set_option maxHeartbeats 4000000 in
set_option maxRecDepth 100000 in
theorem tL_case24 {C : JC} {r0 : Mem × Int32} {b : Nat} (xs : Nat → Int32) (L : Nat) (x1 x2 x3 x4 : Option Nat) (x5 : Int32) (kn : Mem → Option (Mem × Int32)) (hC : Ok C false cL_law 9 room_1 (some .boolean) RL (r0.1, Sum.inr (some (Value.int r0.2)))) (hSc : ScOK C b L xs) {ce sl : Nat} (hce : ce + 8 ≤ 601024) (hsl : sl + 48 ≤ 7293034) (hk : ∀ M : Mem, kn M = some r0 → J C (ce + 8) (sl + 48) M 1589 [(0, .ref b), (1, rf x1), (2, rf x2), (3, rf x3), (4, rf x4), (5, .int x5)] []) (M : Mem) (h : fL_case24 xs L x1 x2 x3 x4 x5 kn M = some r0) : J C ce sl M 1575 [(0, .ref b), (1, rf x1), (2, rf x2), (3, rf x3), (4, rf x4), (5, .int x5)] [] := by
  unfold fL_case24 at h
  refine J_aload_n (j := 1) hC dL_law_1575 rfl ?_
  refine ck_c h (fun ho h => ?_)
  refine bnd_c h (fun w233 hw h => ?_)
  refine J_callV (As := []) (M' := w233.1) (rv := some (Value.long w233.2)) (st := []) hC (fun l hl => cX2_digest_ok M x1 _ hw l hl) vm_X2_digest k_L_175 ho ⟨rfl, rfl⟩ rfl ⟨Nat.le_of_ble_eq_true rfl, Nat.le_of_ble_eq_true rfl⟩ (Nat.zero_le _) ⟨show ce + 1 ≤ 601024 by omega, show sl + 6 ≤ 7293034 by omega⟩ dL_law_1576 rfl ?_
  refine J_aload_n (j := 2) hC dL_law_1579 rfl ?_
  refine ck_c h (fun ho h => ?_)
  refine bnd_c h (fun w234 hw h => ?_)
  refine J_callV (As := []) (M' := w234.1) (rv := some (Value.long w234.2)) (st := [.long w233.2]) hC (fun l hl => cX3_digest_ok w233.1 x2 _ hw l hl) vm_X3_digest k_L_179 ho ⟨rfl, rfl⟩ rfl ⟨Nat.le_of_ble_eq_true rfl, Nat.le_of_ble_eq_true rfl⟩ (Nat.le_of_ble_eq_true rfl) ⟨show ce + 1 + 0 ≤ 601024 by omega, show sl + 6 + 0 ≤ 7293034 by omega⟩ dL_law_1580 rfl ?_
  refine J_lcmp hC dL_law_1583 ?_
  refine J_if_eq (tgt := 1589) hC dL_law_1584 (by decide) (fun c235 => ?_) (fun c235 => ?_)
  · have h := ite_t c235 h
    refine J_widen (k := ce + 8) (n := sl + 48) (show ce + 1 + 0 ≤ ce + 8 by omega) (show sl + 6 + 0 ≤ sl + 48 by omega) ?_
    refine J_sub [0, 1, 2, 3, 4, 5] rfl ?_
    exact hk w234.1 h
  · have h := ite_f c235 h
    refine J_iconst (v := 0) hC dL_law_1587 (by decide) ?_
    exact J_zret hC dL_law_1588 (by decide) (by have h9 := Option.some.inj h; subst h9; rfl) (show ce + 1 + 0 ≤ 601024 by omega) (show sl + 6 + 0 ≤ 7293034 by omega)
set_option maxHeartbeats 4000000 in
set_option maxRecDepth 100000 in
theorem tL_loop {C : JC} {r0 : Mem × Int32} {b : Nat} (xs : Nat → Int32) (L : Nat) (hL : L ≤ 2560) (x1 x2 x3 x4 : Option Nat) (hC : Ok C false cL_law 9 room_1 (some .boolean) RL (r0.1, Sum.inr (some (Value.int r0.2)))) (hSc : ScOK C b L xs) (cz sz : Nat) (hc0 : cz + 8 * 520 ≤ 601024) (hs0 : sz + 48 * 520 ≤ 7293034) : ∀ (n k : Nat) (M : Mem), k ≤ 513 → fL_loop xs L x1 x2 x3 x4 n M (nI (5 * k)) = some r0 → J C (cz + 8 * k) (sz + 48 * k) M 28 [(0, .ref b), (1, rf x1), (2, rf x2), (3, rf x3), (4, rf x4), (5, .int (nI (5 * k)))] [] := by
  intro n
  induction n with
  | zero => intro k M hk h; have h : none = some r0 := h; cases h
  | succ n ih =>
    intro k M hk h
    rw [fL_loop] at h
    have hback : ∀ M2 : Mem, k < 513 → fL_loop xs L x1 x2 x3 x4 n M2 (nI (5 * k) + 5) = some r0 → J C (cz + 8 * k + 8) (sz + 48 * k + 48) M2 1589 [(0, .ref b), (1, rf x1), (2, rf x2), (3, rf x3), (4, rf x4), (5, .int (nI (5 * k)))] [] := by
      intro M2 hk2 h
      have e5 : nI (5 * k) + 5 = nI (5 * (k + 1)) := (nI_add (5 * k) 5)
      refine J_inc (j := 5) (k := 5) (lv' := [(5, .int ((nI (5 * k)) + 5)), (0, .ref b), (1, rf x1), (2, rf x2), (3, rf x3), (4, rf x4)]) hC dL_law_1589 (by decide) rfl (by decide) rfl ?_
      refine J_goto (tgt := 28) hC dL_law_1592 (by decide) ?_
      refine J_sub [1, 2, 3, 4, 5, 0] rfl ?_
      rw [e5] at h ⊢
      exact ih (k + 1) M2 (by omega) h
    refine J_iload (j := 5) hC dL_law_28 rfl ?_
    refine J_aloadQ_n (j := 0) hC dL_law_30 rfl ?_
    refine J_slen hC hSc dL_law_31 ?_
    refine J_iconst (v := 5) hC dL_law_32 (by decide) ?_
    refine J_isub hC dL_law_33 ?_
    refine J_icmp_gt (tgt := 1595) hC dL_law_34 (by decide) (fun c => ?_) (fun c => ?_)
    · have h := ite_t c h
      refine J_iconst (v := 1) hC dL_law_1595 (by decide) ?_
      exact J_zret hC dL_law_1596 (by decide) (by have h9 := Option.some.inj h; subst h9; rfl) (show cz + 8 * k ≤ 601024 by omega) (show sz + 48 * k ≤ 7293034 by omega)
    · have h := ite_f c h
      have hk2 : k < 513 := law_k hL hk c
      have hback := fun M2 => hback M2 hk2
      refine J_aloadQ_n (j := 0) hC dL_law_37 rfl ?_
      refine J_iload (j := 5) hC dL_law_38 rfl ?_
      refine J_sld hC hSc dL_law_40 h (fun v _ h => ?_)
      refine J_bipush (v := 31) hC dL_law_41 (by decide) ?_
      refine J_iand hC dL_law_43 ?_
      refine ite_c h (fun c0 h => ?_) (fun c0 h => ?_)
      · refine J_tabIn (tgt := 160) (off := 116) (k := 0) hC dL_law_44 c0 (by decide) (by decide) (by decide +kernel) (by decide) ?_
        exact tL_case0 xs L x1 x2 x3 x4 _ _ hC hSc (by omega) (by omega) hback M h
      · refine ite_c h (fun c1 h => ?_) (fun c1 h => ?_)
        · refine J_tabIn (tgt := 240) (off := 196) (k := 1) hC dL_law_44 c1 (by decide) (by decide) (by decide +kernel) (by decide) ?_
          exact tL_case1 xs L x1 x2 x3 x4 _ _ hC hSc (by omega) (by omega) hback M h
        · refine ite_c h (fun c2 h => ?_) (fun c2 h => ?_)
          · refine J_tabIn (tgt := 308) (off := 264) (k := 2) hC dL_law_44 c2 (by decide) (by decide) (by decide +kernel) (by decide) ?_
            exact tL_case2 xs L x1 x2 x3 x4 _ _ hC hSc (by omega) (by omega) hback M h
          · refine ite_c h (fun c3 h => ?_) (fun c3 h => ?_)
            · refine J_tabIn (tgt := 376) (off := 332) (k := 3) hC dL_law_44 c3 (by decide) (by decide) (by decide +kernel) (by decide) ?_
              exact tL_case3 xs L x1 x2 x3 x4 _ _ hC hSc (by omega) (by omega) hback M h
            · refine ite_c h (fun c4 h => ?_) (fun c4 h => ?_)
              · refine J_tabIn (tgt := 432) (off := 388) (k := 4) hC dL_law_44 c4 (by decide) (by decide) (by decide +kernel) (by decide) ?_
                exact tL_case4 xs L x1 x2 x3 x4 _ _ hC hSc (by omega) (by omega) hback M h
              · refine ite_c h (fun c5 h => ?_) (fun c5 h => ?_)
                · refine J_tabIn (tgt := 445) (off := 401) (k := 5) hC dL_law_44 c5 (by decide) (by decide) (by decide +kernel) (by decide) ?_
                  exact tL_case5 xs L x1 x2 x3 x4 _ _ hC hSc (by omega) (by omega) hback M h
                · refine ite_c h (fun c6 h => ?_) (fun c6 h => ?_)
                  · refine J_tabIn (tgt := 501) (off := 457) (k := 6) hC dL_law_44 c6 (by decide) (by decide) (by decide +kernel) (by decide) ?_
                    exact tL_case6 xs L x1 x2 x3 x4 _ _ hC hSc (by omega) (by omega) hback M h
                  · refine ite_c h (fun c7 h => ?_) (fun c7 h => ?_)
                    · refine J_tabIn (tgt := 557) (off := 513) (k := 7) hC dL_law_44 c7 (by decide) (by decide) (by decide +kernel) (by decide) ?_
                      exact tL_case7 xs L x1 x2 x3 x4 _ _ hC hSc (by omega) (by omega) hback M h
                    · refine ite_c h (fun c8 h => ?_) (fun c8 h => ?_)
                      · refine J_tabIn (tgt := 570) (off := 526) (k := 8) hC dL_law_44 c8 (by decide) (by decide) (by decide +kernel) (by decide) ?_
                        exact tL_case8 xs L x1 x2 x3 x4 _ _ hC hSc (by omega) (by omega) hback M h
                      · refine ite_c h (fun c9 h => ?_) (fun c9 h => ?_)
                        · refine J_tabIn (tgt := 583) (off := 539) (k := 9) hC dL_law_44 c9 (by decide) (by decide) (by decide +kernel) (by decide) ?_
                          exact tL_case9 xs L x1 x2 x3 x4 _ _ hC hSc (by omega) (by omega) hback M h
                        · refine ite_c h (fun c10 h => ?_) (fun c10 h => ?_)
                          · refine J_tabIn (tgt := 639) (off := 595) (k := 10) hC dL_law_44 c10 (by decide) (by decide) (by decide +kernel) (by decide) ?_
                            exact tL_case10 xs L x1 x2 x3 x4 _ _ hC hSc (by omega) (by omega) hback M h
                          · refine ite_c h (fun c11 h => ?_) (fun c11 h => ?_)
                            · refine J_tabIn (tgt := 695) (off := 651) (k := 11) hC dL_law_44 c11 (by decide) (by decide) (by decide +kernel) (by decide) ?_
                              exact tL_case11 xs L x1 x2 x3 x4 _ _ hC hSc (by omega) (by omega) hback M h
                            · refine ite_c h (fun c12 h => ?_) (fun c12 h => ?_)
                              · refine J_tabIn (tgt := 751) (off := 707) (k := 12) hC dL_law_44 c12 (by decide) (by decide) (by decide +kernel) (by decide) ?_
                                exact tL_case12 xs L x1 x2 x3 x4 _ _ hC hSc (by omega) (by omega) hback M h
                              · refine ite_c h (fun c13 h => ?_) (fun c13 h => ?_)
                                · refine J_tabIn (tgt := 795) (off := 751) (k := 13) hC dL_law_44 c13 (by decide) (by decide) (by decide +kernel) (by decide) ?_
                                  exact tL_case13 xs L x1 x2 x3 x4 _ _ hC hSc (by omega) (by omega) hback M h
                                · refine ite_c h (fun c14 h => ?_) (fun c14 h => ?_)
                                  · refine J_tabIn (tgt := 863) (off := 819) (k := 14) hC dL_law_44 c14 (by decide) (by decide) (by decide +kernel) (by decide) ?_
                                    exact tL_case14 xs L x1 x2 x3 x4 _ _ hC hSc (by omega) (by omega) hback M h
                                  · refine ite_c h (fun c15 h => ?_) (fun c15 h => ?_)
                                    · refine J_tabIn (tgt := 931) (off := 887) (k := 15) hC dL_law_44 c15 (by decide) (by decide) (by decide +kernel) (by decide) ?_
                                      exact tL_case15 xs L x1 x2 x3 x4 _ _ hC hSc (by omega) (by omega) hback M h
                                    · refine ite_c h (fun c16 h => ?_) (fun c16 h => ?_)
                                      · refine J_tabIn (tgt := 999) (off := 955) (k := 16) hC dL_law_44 c16 (by decide) (by decide) (by decide +kernel) (by decide) ?_
                                        exact tL_case16 xs L x1 x2 x3 x4 _ _ hC hSc (by omega) (by omega) hback M h
                                      · refine ite_c h (fun c17 h => ?_) (fun c17 h => ?_)
                                        · refine J_tabIn (tgt := 1079) (off := 1035) (k := 17) hC dL_law_44 c17 (by decide) (by decide) (by decide +kernel) (by decide) ?_
                                          exact tL_case17 xs L x1 x2 x3 x4 _ _ hC hSc (by omega) (by omega) hback M h
                                        · refine ite_c h (fun c18 h => ?_) (fun c18 h => ?_)
                                          · refine J_tabIn (tgt := 1147) (off := 1103) (k := 18) hC dL_law_44 c18 (by decide) (by decide) (by decide +kernel) (by decide) ?_
                                            exact tL_case18 xs L x1 x2 x3 x4 _ _ hC hSc (by omega) (by omega) hback M h
                                          · refine ite_c h (fun c19 h => ?_) (fun c19 h => ?_)
                                            · refine J_tabIn (tgt := 1215) (off := 1171) (k := 19) hC dL_law_44 c19 (by decide) (by decide) (by decide +kernel) (by decide) ?_
                                              exact tL_case19 xs L x1 x2 x3 x4 _ _ hC hSc (by omega) (by omega) hback M h
                                            · refine ite_c h (fun c20 h => ?_) (fun c20 h => ?_)
                                              · refine J_tabIn (tgt := 1295) (off := 1251) (k := 20) hC dL_law_44 c20 (by decide) (by decide) (by decide +kernel) (by decide) ?_
                                                exact tL_case20 xs L x1 x2 x3 x4 _ _ hC hSc (by omega) (by omega) hback M h
                                              · refine ite_c h (fun c21 h => ?_) (fun c21 h => ?_)
                                                · refine J_tabIn (tgt := 1387) (off := 1343) (k := 21) hC dL_law_44 c21 (by decide) (by decide) (by decide +kernel) (by decide) ?_
                                                  exact tL_case21 xs L x1 x2 x3 x4 _ _ hC hSc (by omega) (by omega) hback M h
                                                · refine ite_c h (fun c22 h => ?_) (fun c22 h => ?_)
                                                  · refine J_tabIn (tgt := 1442) (off := 1398) (k := 22) hC dL_law_44 c22 (by decide) (by decide) (by decide +kernel) (by decide) ?_
                                                    exact tL_case22 xs L x1 x2 x3 x4 _ _ hC hSc (by omega) (by omega) hback M h
                                                  · refine ite_c h (fun c23 h => ?_) (fun c23 h => ?_)
                                                    · refine J_tabIn (tgt := 1498) (off := 1454) (k := 23) hC dL_law_44 c23 (by decide) (by decide) (by decide +kernel) (by decide) ?_
                                                      exact tL_case23 xs L x1 x2 x3 x4 _ _ hC hSc (by omega) (by omega) hback M h
                                                    · refine ite_c h (fun c24 h => ?_) (fun c24 h => ?_)
                                                      · refine J_tabIn (tgt := 1575) (off := 1531) (k := 24) hC dL_law_44 c24 (by decide) (by decide) (by decide +kernel) (by decide) ?_
                                                        exact tL_case24 xs L x1 x2 x3 x4 _ _ hC hSc (by omega) (by omega) hback M h
                                                      · have hd9 : (v &&& 31).toInt < 0 ∨ 24 < (v &&& 31).toInt := by
                                                          have e0 := ne_toInt c0
                                                          have e1 := ne_toInt c1
                                                          have e2 := ne_toInt c2
                                                          have e3 := ne_toInt c3
                                                          have e4 := ne_toInt c4
                                                          have e5 := ne_toInt c5
                                                          have e6 := ne_toInt c6
                                                          have e7 := ne_toInt c7
                                                          have e8 := ne_toInt c8
                                                          have e9 := ne_toInt c9
                                                          have e10 := ne_toInt c10
                                                          have e11 := ne_toInt c11
                                                          have e12 := ne_toInt c12
                                                          have e13 := ne_toInt c13
                                                          have e14 := ne_toInt c14
                                                          have e15 := ne_toInt c15
                                                          have e16 := ne_toInt c16
                                                          have e17 := ne_toInt c17
                                                          have e18 := ne_toInt c18
                                                          have e19 := ne_toInt c19
                                                          have e20 := ne_toInt c20
                                                          have e21 := ne_toInt c21
                                                          have e22 := ne_toInt c22
                                                          have e23 := ne_toInt c23
                                                          have e24 := ne_toInt c24
                                                          have f0 : (0 : Int32).toInt = 0 := by decide
                                                          have f1 : (1 : Int32).toInt = 1 := by decide
                                                          have f2 : (2 : Int32).toInt = 2 := by decide
                                                          have f3 : (3 : Int32).toInt = 3 := by decide
                                                          have f4 : (4 : Int32).toInt = 4 := by decide
                                                          have f5 : (5 : Int32).toInt = 5 := by decide
                                                          have f6 : (6 : Int32).toInt = 6 := by decide
                                                          have f7 : (7 : Int32).toInt = 7 := by decide
                                                          have f8 : (8 : Int32).toInt = 8 := by decide
                                                          have f9 : (9 : Int32).toInt = 9 := by decide
                                                          have f10 : (10 : Int32).toInt = 10 := by decide
                                                          have f11 : (11 : Int32).toInt = 11 := by decide
                                                          have f12 : (12 : Int32).toInt = 12 := by decide
                                                          have f13 : (13 : Int32).toInt = 13 := by decide
                                                          have f14 : (14 : Int32).toInt = 14 := by decide
                                                          have f15 : (15 : Int32).toInt = 15 := by decide
                                                          have f16 : (16 : Int32).toInt = 16 := by decide
                                                          have f17 : (17 : Int32).toInt = 17 := by decide
                                                          have f18 : (18 : Int32).toInt = 18 := by decide
                                                          have f19 : (19 : Int32).toInt = 19 := by decide
                                                          have f20 : (20 : Int32).toInt = 20 := by decide
                                                          have f21 : (21 : Int32).toInt = 21 := by decide
                                                          have f22 : (22 : Int32).toInt = 22 := by decide
                                                          have f23 : (23 : Int32).toInt = 23 := by decide
                                                          have f24 : (24 : Int32).toInt = 24 := by decide
                                                          omega
                                                        refine J_tableOut (tgt := 1589) hC dL_law_44 hd9 (by decide) ?_
                                                        refine J_widen (k := cz + 8 * k + 8) (n := sz + 48 * k + 48) (by omega) (by omega) ?_
                                                        exact hback M h
/-- nothing is made yet -/
def M0 : Mem := (0, fun _ _ => 0, fun _ _ => 0, fun _ _ => none, fun _ _ => 0)
def fL_law (xs : Nat → Int32) (L : Nat) : Option (Mem × Int32) :=
  (nwO 2 M0).bind fun M236 =>
  (fX2_init M236 (some M0.1)).bind fun w237 =>
  (nwO 3 w237).bind fun M238 =>
  (fX3_init M238 (some w237.1)).bind fun w239 =>
  (nwA 5 w239 1).bind fun M240 =>
  (nwA 10 M240 1).bind fun M241 =>
  fL_loop xs L (some M0.1) (some w237.1) (some w239.1) (some M240.1) FU M241 0
set_option maxHeartbeats 4000000 in
set_option maxRecDepth 100000 in
theorem tL_entry {C : JC} {r0 : Mem × Int32} {b : Nat} (xs : Nat → Int32) (L : Nat) (hL : L ≤ 2560) (hC : Ok C false cL_law 9 room_1 (some .boolean) RL (r0.1, Sum.inr (some (Value.int r0.2)))) (hSc : ScOK C b L xs) (h : fL_law xs L = some r0) : J C 0 0 M0 0 [(0, .ref b)] [] := by
  unfold fL_law at h
  refine J_new2 hC k_L_8 (Nat.le_of_ble_eq_true rfl) (Nat.le_of_ble_eq_true rfl) dL_law_0 h (fun M236 _ h => ?_)
  refine J_dup hC dL_law_3 rfl ?_
  refine bnd_c h (fun w237 hw h => ?_)
  refine J_callI (As := []) (M' := w237) (rv := none) (st := [rf (some M0.1)]) hC (fun l hl => cX2_init_ok M236 (some M0.1) _ hw l hl) im_X2_init k_L_85 ⟨_, rfl⟩ rfl ⟨Nat.le_of_ble_eq_true rfl, Nat.le_of_ble_eq_true rfl⟩ (Nat.le_of_ble_eq_true rfl) ⟨Nat.le_of_ble_eq_true rfl, Nat.le_of_ble_eq_true rfl⟩ dL_law_4 rfl ?_
  refine J_astore_n (i := 1) (lv' := [(1, rf (some M0.1)), (0, .ref b)]) rfl hC dL_law_7 (by decide) rfl ?_
  refine J_new3 hC k_L_86 (Nat.le_of_ble_eq_true rfl) (Nat.le_of_ble_eq_true rfl) dL_law_8 h (fun M238 _ h => ?_)
  refine J_dup hC dL_law_11 rfl ?_
  refine bnd_c h (fun w239 hw h => ?_)
  refine J_callI (As := []) (M' := w239) (rv := none) (st := [rf (some w237.1)]) hC (fun l hl => cX3_init_ok M238 (some w237.1) _ hw l hl) im_X3_init k_L_88 ⟨_, rfl⟩ rfl ⟨Nat.le_of_ble_eq_true rfl, Nat.le_of_ble_eq_true rfl⟩ (Nat.le_of_ble_eq_true rfl) ⟨Nat.le_of_ble_eq_true rfl, Nat.le_of_ble_eq_true rfl⟩ dL_law_12 rfl ?_
  refine J_astore_n (i := 2) (lv' := [(2, rf (some w237.1)), (1, rf (some M0.1)), (0, .ref b)]) rfl hC dL_law_15 (by decide) rfl ?_
  refine J_iconst (v := 1) hC dL_law_16 (by decide) ?_
  refine J_newa5 (n' := 1) hC (by decide) (by decide) (Nat.le_of_ble_eq_true rfl) (Nat.le_of_ble_eq_true rfl) dL_law_17 h (fun M240 _ h => ?_)
  refine J_astore_n (i := 3) (lv' := [(3, rf (some w239.1)), (2, rf (some w237.1)), (1, rf (some M0.1)), (0, .ref b)]) rfl hC dL_law_19 (by decide) rfl ?_
  refine J_iconst (v := 1) hC dL_law_20 (by decide) ?_
  refine J_newa10 (n' := 1) hC (by decide) (by decide) (Nat.le_of_ble_eq_true rfl) (Nat.le_of_ble_eq_true rfl) dL_law_21 h (fun M241 _ h => ?_)
  refine J_astore (lv' := [(4, rf (some M240.1)), (3, rf (some w239.1)), (2, rf (some w237.1)), (1, rf (some M0.1)), (0, .ref b)]) hC dL_law_23 (by decide) rfl ?_
  refine J_iconst (v := 0) hC dL_law_25 (by decide) ?_
  refine J_istore (lv' := [(5, .int 0), (4, rf (some M240.1)), (3, rf (some w239.1)), (2, rf (some w237.1)), (1, rf (some M0.1)), (0, .ref b)]) hC dL_law_26 (by decide) rfl ?_
  refine J_sub [5, 4, 3, 2, 1, 0] rfl ?_
  refine J_widen (k := 128 + 8 * 0) (n := 2802 + 48 * 0) (Nat.le_of_ble_eq_true rfl) (Nat.le_of_ble_eq_true rfl) ?_
  have hh := tL_loop (b := b) xs L hL (some M0.1) (some w237.1) (some w239.1) (some M240.1) hC hSc 128 2802 (by decide) (by decide) FU 0 M241 (by decide)
  rw [show nI (5 * 0) = 0 from by decide] at hh
  exact hh h
