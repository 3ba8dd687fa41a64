/-! ===== queries: the class's object and the model tell the same ===== -/
def out (M : Mem) (x : Int64) : Mem := setJ M 126 (uq (mJ M 126) 0 x)
theorem HM_out (M : Mem) (x : Int64) : HM (out M x) ↔ HM M := Iff.rfl
theorem CR.out {M : Mem} {sp : Nat → Nat} {v : Nat → Int32} {B : BS} (h : CR M sp v B) (x : Int64) : CR (out M x) sp v B := h
/-- what a query of the model leaves -/
def Mqy (M M2 : Mem) : Prop := FrM M M2 ∧ mI M2 117 3 = mI M 117 3 ∧ mI M2 117 7 = mI M 117 7 ∧ ∀ b, 118 ≤ b → b ≤ 122 → mI M2 b = mI M b
theorem mq_refl (M : Mem) : Mqy M M := ⟨FrM.refl M, rfl, rfl, fun _ _ _ => rfl⟩
theorem mq_trans {M M2 M3 : Mem} (h : Mqy M M2) (h2 : Mqy M2 M3) : Mqy M M3 := ⟨h.1.trans h2.1, h2.2.1.trans h.2.1, h2.2.2.1.trans h.2.2.1, fun b h3 h4 => (h2.2.2.2 b h3 h4).trans (h.2.2.2 b h3 h4)⟩
theorem mq_zap (M : Mem) (x : Int32) : Mqy M (zap M x) := ⟨FrM.zap x, zap_k _ _ (by decide), zap_k _ _ (by decide), fun b h1 _ => zap_o _ _ (by omega)⟩
theorem mq_oft (M : Mem) (n : Nat) : Mqy M (oftM M n) := ⟨FrM.set (by decide), rfl, rfl, fun b h1 h2 => mI_ne _ _ (by omega)⟩
theorem mq_scr (M : Mem) (f g : Nat → Int32) (x : Int32) : Mqy M (scr M f g x) := ⟨(FrM.set (by decide)).trans ((FrM.set (by decide)).trans (FrM.set (by decide))), by unfold scr; rw [mI_eq, uq_ne _ _ (by decide)], by unfold scr; rw [mI_eq, uq_ne _ _ (by decide)], fun b h1 h2 => scr_o _ _ _ _ (by omega) (by omega) (by omega)⟩
theorem mq_setJ (M : Mem) {a : Nat} (f : Nat → Int64) (h : a ≠ 126 ∧ a ≠ 16) : Mqy M (setJ M a f) := ⟨FrM.setJ h, rfl, rfl, fun _ _ _ => rfl⟩
theorem Bth.q {M Mc M2 : Mem} {y : Int32} {o1 : Option (Mem × Int32)} {o3 : Mem → Option (Mem × Int32)} (hI : Inv M) {S : Nat → Prop} (hf : Fr S M Mc) (hs : ∀ b, S b → 81 ≤ b ∧ b < 117) (h1 : o1 = some (out Mc y.toInt64, 0)) (h3 : o3 (out Mc y.toInt64) = some (M2, y)) (hm : Mqy (out Mc y.toInt64) M2) (h0 : mI M2 117 0 = 0) : Bth o1 o3 := by
  obtain ⟨sp, c, l, i1, i2, i3, i4, i5, i6⟩ := hI
  have hc := hf.frC (fun b hb q => by have := hs b q; omega)
  have hm2 : HM Mc := i1.frC hc
  have e : ∀ b, 117 ≤ b → mI Mc b = mI M b := fun b hb => (hc.2.2 b hb).1
  refine ⟨_, M2, 0, y, h1, hm2, h3, h0, fun _ => ?_, Inv.same (M := M) ((i4.fr i6.1 hf (fun b hb => (hs b hb).1)).out _) hm2 hm.1 ?_ ?_ ?_ ?_ ?_ ?_ ?_ i5 i6⟩
  · rw [hm.1.2.2.2.2, out, mJ_eq, uq_eq]
  · rw [hm.2.1, ← i2, ← e 117 (by decide)]; rfl
  · rw [hm.2.2.1, ← i3, ← e 117 (by decide)]; rfl
  · rw [hm.2.2.2 118 (by decide) (by decide), ← e 118 (by decide)]; rfl
  · rw [hm.2.2.2 119 (by decide) (by decide), ← e 119 (by decide)]; rfl
  · rw [hm.2.2.2 120 (by decide) (by decide), ← e 120 (by decide)]; rfl
  · rw [hm.2.2.2 121 (by decide) (by decide), ← e 121 (by decide)]; rfl
  · rw [hm.2.2.2 122 (by decide) (by decide), ← e 122 (by decide)]; rfl
theorem now_row {M : Mem} {β : Type} (h : HC0 M) {n : Nat} (hn : n < 5) (F : Option Nat → Option β) : ((gR 2 0 M (some 0)).bind fun v5 => (gR 1 0 M v5).bind fun v6 => (aR 9 M v6 (nI n)).bind F) = F (some (1 + 2 + n)) := by
  rw [k0 M h, Option.bind_some, bk0 M 1 blk_1 h, Option.bind_some, bkr M 1 n hn blk_1 h, Option.bind_some]
theorem Inv.row {M : Mem} (h : Inv M) {n : Nat} (hn : n < 5) : Row M (1 + 2 + n) ∧ rC M (1 + 2 + n) = rv (mI M 118) n := by
  obtain ⟨sp, c, l, i1, i2, i3, i4, i5, i6⟩ := h
  exact ⟨bRow hn blk_1 i4.1, i4.2.2.1.1 n hn⟩
theorem Inv.ok {M : Mem} (h : Inv M) : OkV (mI M 118) := by obtain ⟨sp, c, l, i1, i2, i3, i4, i5, i6⟩ := h; exact i5
theorem Inv.sg {M : Mem} (h : Inv M) : SgV (mI M 118) := h.ok.1
theorem Inv.nz {M : Mem} (h : Inv M) : NzV (mI M 118) := h.ok.2.1
theorem thr_r {α β : Type} (v : α) (fx : String → β) (k : α → β) : thrE (.inr v) fx k = k v := rfl
theorem thr_l {α β : Type} (E : String) (fx : String → β) (k : α → β) : thrE (.inl E) fx k = fx E := rfl
theorem mz (M : Mem) (h : HM M) : pI 3 0 M (some 117) 0 = some (zap M 0) := mop M 0 0 h
theorem num_v (M : Mem) {n : Nat} (hn : n < 5) : fX2_checkNumber M (nI n) = some (.inr ()) ∧ fX3_isPoly M (nI n) = some 1 := by
  constructor
  · rw [fX2_checkNumber, if_neg (nI_pos (by omega)), if_pos (show nI n < 5 from nI_lt hn (by decide))]
  · rw [fX3_isPoly, q_in, if_neg (nI_pos (by omega)), if_neg (show ¬ (4 : Int32) < nI n from nI_nlt (a := 4) (by omega) (by decide))]; rfl
theorem pow_v (M : Mem) {n : Nat} (hn : n < 9) : fX2_checkPower M (nI n) = some (.inr ()) ∧ fX3_in M (nI n) 0 8 = some 1 := by
  constructor
  · rw [fX2_checkPower, if_neg (nI_pos (by omega)), if_pos (show nI n ≤ 8 from nI_le (b := 8) (by omega) (by decide))]
  · rw [q_in, if_neg (nI_pos (by omega)), if_neg (show ¬ (8 : Int32) < nI n from nI_nlt (a := 8) (by omega) (by decide))]
theorem sgn_v (M : Mem) {x : Int32} (h : sgn x) : fX2_checkSign M x = some (.inr ()) ∧ fX3_isSign M x = some 1 := by
  rcases h with rfl | rfl | rfl <;> exact ⟨rfl, rfl⟩
theorem wha_v (M : Mem) {n N : Nat} (hn : n < N + 1) (hN : N + 1 < 2 ^ 31) : fX2_checkWhat M (nI n) (nI (N + 1)) = some (.inr ()) ∧ fX3_in M (nI n) 0 (nI N) = some 1 := by
  constructor
  · rw [fX2_checkWhat, if_neg (nI_pos (by omega)), if_pos (nI_lt hn (by omega))]
  · rw [q_in, if_neg (nI_pos (by omega)), if_neg (nI_nlt (by omega) (by omega))]
theorem slo_v (M : Mem) {n : Nat} (hn : n < 2) : fX2_checkSlot M (nI n) = some (.inr ()) ∧ fX3_in M (nI n) 0 1 = some 1 := by
  constructor
  · rw [fX2_checkSlot, if_neg (nI_pos (by omega)), if_pos (show nI n < 2 from nI_lt hn (by decide))]
  · rw [q_in, if_neg (nI_pos (by omega)), if_neg (show ¬ (1 : Int32) < nI n from nI_nlt (a := 1) (by omega) (by decide))]
theorem v_sign {M : Mem} (hI : Inv M) {n k : Nat} (hn : n < 5) (hk : k < 9) : Bth (fL_sign M (some 0) (nI n) (nI k) (some 126)) (fun M1 => fX3_sign M1 (some 117) (nI n) (nI k)) := by
  have hc := hI.hc
  obtain ⟨hr, er⟩ := hI.row hn
  have x : ∀ M, HM M → fX3_sign M (some 117) (nI n) (nI k) = some (zap M 0, rv (mI M 118) n k) := fun M h => by
    rw [fX3_sign, mz M h, Option.bind_some, (num_v _ hn).2, Option.bind_some, if_neg (by decide), (pow_v _ hk).2, Option.bind_some, if_neg (by decide), mok (zap M 0) h, Option.bind_some, q_signAt (zap M 0) h hn (by omega), Option.bind_some]; rfl
  refine Bth.q hI (y := rv (mI M 118) n k) (Fr.refl (fun _ => False) M) (fun b hb => hb.elim) ?_ (x (out M _) hI.hm) (mq_zap _ _) (zap_0 _ _)
  rw [fL_sign, kk M hc, Option.bind_some, fX2_sign, (num_v _ hn).1, Option.bind_some, thr_r, (pow_v _ hk).1, Option.bind_some, thr_r, now_row hc hn, aI_r hr hk, er, Option.bind_some, Option.bind_some, thr_r, out_w hc.1, Option.bind_some]
  rfl
theorem v_of {M : Mem} (hI : Inv M) {n w : Nat} (hn : n < 5) (hw : w < 4) : Bth (fL_of M (some 0) (nI n) (nI w) (some 126)) (fun M1 => fX3_of M1 (some 117) (nI n) (nI w)) := by
  have hc := hI.hc
  obtain ⟨hr, er⟩ := hI.row hn
  have x : ∀ N, HM N → mI N 118 = mI M 118 → fX3_of N (some 117) (nI n) (nI w) = some (telM (zap N 0) n w, tel (rv (mI M 118) n) w) := fun N h e => by
    have e2 : mI (zap N 0) 118 = mI M 118 := by rw [zap_o _ _ (by decide), e]
    rw [fX3_of, mz N h, Option.bind_some, (num_v _ hn).2, Option.bind_some, if_neg (by decide), show (3 : Int32) = nI 3 from rfl, (wha_v _ hw (by decide)).2, Option.bind_some, if_neg (by decide), mok (zap N 0) h, Option.bind_some, q_tells (zap N 0) h (by rw [e2]; exact hI.sg) (by rw [e2]; exact hI.nz) hn hw, Option.bind_some, e2]
  have hq : ∀ N, Mqy N (telM (zap N 0) n w) ∧ mI (telM (zap N 0) n w) 117 0 = 0 := by
    intro N
    unfold telM
    split
    · exact ⟨mq_zap _ _, zap_0 _ _⟩
    · exact ⟨mq_trans (mq_zap N 0) (mq_oft _ _), zap_0 N 0⟩
  refine Bth.q hI (y := tel (rv (mI M 118) n) w) (Fr.refl (fun _ => False) M) (fun b hb => hb.elim) ?_ (x (out M _) hI.hm rfl) (hq _).1 (hq _).2
  have hv : fX2_of M (some 0) (nI n) (nI w) = some (.inr (tel (rv (mI M 118) n) w)) := by
    have hs : SgR (rC M (1 + 2 + n)) := by rw [er]; exact hI.sg.row hn
    have f1 := s_degreeOf hr
    have f2 := s_notZero hr
    have f3 := s_changes1 hr hs
    have f4 := s_formOf hr
    rw [er] at f1 f2 f3 f4
    rw [fX2_of, (num_v _ hn).1, Option.bind_some, thr_r, show (4 : Int32) = nI (3 + 1) from rfl, (wha_v _ hw (by decide)).1, Option.bind_some, thr_r, now_row hc hn, f1, f2, f3, f4]
    have hw2 : w = 0 ∨ w = 1 ∨ w = 2 ∨ w = 3 := by omega
    rcases hw2 with rfl | rfl | rfl | rfl <;> rfl
  rw [fL_of, kk M hc, Option.bind_some, hv, Option.bind_some, thr_r, out_w hc.1, Option.bind_some]
  rfl
theorem v_isRoot {M : Mem} (hI : Inv M) {n : Nat} (hn : n < 5) {r : Int32} (hr0 : sgn r) : Bth (fL_isRoot M (some 0) (nI n) r (some 126)) (fun M1 => fX3_isRoot M1 (some 117) (nI n) r) := by
  have hc := hI.hc
  obtain ⟨hr, er⟩ := hI.row hn
  have hb : ∀ b : Bool, (if b2 b = 0 then (0 : Int32) else 1) = b2 b := by intro b; cases b <;> rfl
  have x : ∀ N, HM N → mI N 118 = mI M 118 → fX3_isRoot N (some 117) (nI n) r = some (zap N 0, b2 (hasR (rv (mI M 118) n) r)) := fun N h e => by
    have e2 : mI (zap N 0) 118 = mI M 118 := by rw [zap_o _ _ (by decide), e]
    rw [fX3_isRoot, mz N h, Option.bind_some, (num_v _ hn).2, Option.bind_some, if_neg (by decide), (sgn_v _ hr0).2, Option.bind_some, if_neg (by decide), mok (zap N 0) h, Option.bind_some, q_has (zap N 0) h (by rw [e2]; exact hI.sg) hn hr0, Option.bind_some, e2, hb]
  refine Bth.q hI (y := b2 (hasR (rv (mI M 118) n) r)) (Fr.refl (fun _ => False) M) (fun b hb => hb.elim) ?_ (x (out M _) hI.hm rfl) (mq_zap _ _) (zap_0 _ _)
  have f1 := s_hasRoot hr hr0 (by rw [er]; exact hI.sg.row hn)
  rw [er, show (if hasR (rv (mI M 118) n) r = true then (1 : Int32) else 0) = b2 (hasR (rv (mI M 118) n) r) from rfl] at f1
  rw [fL_isRoot, kk M hc, Option.bind_some, fX2_isRoot, (num_v _ hn).1, Option.bind_some, thr_r, (sgn_v _ hr0).1, Option.bind_some, thr_r, now_row hc hn, f1, Option.bind_some, hb, Option.bind_some, thr_r, out_w hc.1, Option.bind_some]
  rfl
theorem v_many {M : Mem} (hI : Inv M) {n m w : Nat} (hn : n < 5) (hm : m < 5) (hw : w < 2) : Bth (fL_many M (some 0) (nI n) (nI m) (nI w) (some 126)) (fun M1 => fX3_many M1 (some 117) (nI n) (nI m) (nI w)) := by
  have hc := hI.hc
  obtain ⟨hr, er⟩ := hI.row hn
  obtain ⟨hr2, er2⟩ := hI.row hm
  have x : ∀ N, HM N → mI N 118 = mI M 118 → fX3_many N (some 117) (nI n) (nI m) (nI w) = some (zap N 0, rowsV (nI w) (rv (mI M 118) n) (rv (mI M 118) m)) := fun N h e => by
    have e2 : mI (zap N 0) 118 = mI M 118 := by rw [zap_o _ _ (by decide), e]
    rw [fX3_many, mz N h, Option.bind_some, (num_v _ hn).2, Option.bind_some, if_neg (by decide), (num_v _ hm).2, Option.bind_some, if_neg (by decide), show (1 : Int32) = nI 1 from rfl, (wha_v _ hw (by decide)).2, Option.bind_some, if_neg (by decide), mok (zap N 0) h, Option.bind_some, q_rows (zap N 0) h (by rw [e2]; exact hI.sg) hn hm, Option.bind_some, e2]
  refine Bth.q hI (y := rowsV (nI w) (rv (mI M 118) n) (rv (mI M 118) m)) (Fr.refl (fun _ => False) M) (fun b hb => hb.elim) ?_ (x (out M _) hI.hm rfl) (mq_zap _ _) (zap_0 _ _)
  have f1 := s_rowsOf hr hr2 (by rw [er]; exact hI.sg.row hn) (by rw [er2]; exact hI.sg.row hm) (nI w)
  rw [er, er2] at f1
  rw [fL_many, kk M hc, Option.bind_some, fX2_many, (num_v _ hn).1, Option.bind_some, thr_r, (num_v _ hm).1, Option.bind_some, thr_r, show (2 : Int32) = nI (1 + 1) from rfl, (wha_v _ hw (by decide)).1, Option.bind_some, thr_r, now_row hc hn, now_row hc hm, f1, Option.bind_some, Option.bind_some, thr_r, out_w hc.1, Option.bind_some]
  rfl
theorem v_isIn {M : Mem} (hI : Inv M) {c n m w : Nat} (hc0 : c < 5) (hn : n < 5) (hm : m < 5) (hw : w < 2) : Bth (fL_isIn M (some 0) (nI c) (nI n) (nI m) (nI w) (some 126)) (fun M1 => fX3_isIn M1 (some 117) (nI c) (nI n) (nI m) (nI w)) := by
  have hc := hI.hc
  obtain ⟨hr0, er0⟩ := hI.row hc0
  obtain ⟨hr, er⟩ := hI.row hn
  obtain ⟨hr2, er2⟩ := hI.row hm
  have hb : ∀ b : Bool, (if b2 b = 0 then (0 : Int32) else 1) = b2 b := by intro b; cases b <;> rfl
  have x : ∀ N, HM N → mI N 118 = mI M 118 → fX3_isIn N (some 117) (nI c) (nI n) (nI m) (nI w) = some (zap N 0, b2 (amgV (nI w) (rv (mI M 118) c) (rv (mI M 118) n) (rv (mI M 118) m))) := fun N h e => by
    have e2 : mI (zap N 0) 118 = mI M 118 := by rw [zap_o _ _ (by decide), e]
    rw [fX3_isIn, mz N h, Option.bind_some, (num_v _ hc0).2, Option.bind_some, if_neg (by decide), (num_v _ hn).2, Option.bind_some, if_neg (by decide), (num_v _ hm).2, Option.bind_some, if_neg (by decide), show fX3_in (zap N 0) (nI w) 0 1 = some 1 from (wha_v (N := 1) _ hw (by decide)).2, Option.bind_some, if_neg (by decide), mok (zap N 0) h, Option.bind_some, q_isAmong (zap N 0) h (by rw [e2]; exact hI.sg) hc0 hn hm, Option.bind_some, e2, hb]
  refine Bth.q hI (y := b2 (amgV (nI w) (rv (mI M 118) c) (rv (mI M 118) n) (rv (mI M 118) m))) (Fr.refl (fun _ => False) M) (fun b hb => hb.elim) ?_ (x (out M _) hI.hm rfl) (mq_zap _ _) (zap_0 _ _)
  have f1 := s_isAmong hr0 hr hr2 (by rw [er0]; exact hI.sg.row hc0) (by rw [er]; exact hI.sg.row hn) (by rw [er2]; exact hI.sg.row hm) (nI w)
  rw [er, er2, er0, show (if amgV (nI w) (rv (mI M 118) c) (rv (mI M 118) n) (rv (mI M 118) m) = true then (1 : Int32) else 0) = b2 (amgV (nI w) (rv (mI M 118) c) (rv (mI M 118) n) (rv (mI M 118) m)) from rfl] at f1
  rw [fL_isIn, kk M hc, Option.bind_some, fX2_isIn, (num_v _ hc0).1, Option.bind_some, thr_r, (num_v _ hn).1, Option.bind_some, thr_r, (num_v _ hm).1, Option.bind_some, thr_r, show (2 : Int32) = nI (1 + 1) from rfl, (wha_v _ hw (by decide)).1, Option.bind_some, thr_r, now_row hc hc0, now_row hc hn, now_row hc hm, f1, Option.bind_some, hb, Option.bind_some, thr_r, out_w hc.1, Option.bind_some]
  rfl
