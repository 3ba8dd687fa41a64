/-! ===== the class's whole digest ===== -/
def mapL {α : Type} (f : Nat → List α) : Nat → List α
  | 0 => []
  | i + 1 => mapL f i ++ f i
def tcL (v : Nat → Int32) (c : Nat) : Nat → List Int64 := mapL fun w => [(tcV v c w).toInt64]
def rowsL (v : Nat → Int32) : Nat → List Int64 := mapL fun n => rowL (rv v n)
def pairL (v : Nat → Int32) (a b : Nat) : List Int64 := [(rowsV 0 (rv v a) (rv v b)).toInt64, (rowsV 1 (rv v a) (rv v b)).toInt64]
def parL (v : Nat → Int32) : Nat → List Int64 := mapL fun a => mapL (fun b => pairL v a b) 5
def whoL (v : Nat → Int32) : Nat → List Int64 := mapL fun k => [whW v (cnt v) k]
def rooL (v : Nat → Int32) : Nat → List Int64 := mapL fun i => [(v (46 + i)).toInt64]
def kepL (kt : Nat → Int32) : Nat → List Int64 := mapL fun s => [if kt s = 0 then 0 else 1]
def texL (bf : Nat → Int32) : Nat → List Int64 := mapL fun i => [(bf i).toInt64]
def digL (v : Nat → Int32) (c : Nat) (kt : Nat → Int32) (l : Nat) (bf : Nat → Int32) : List Int64 := tcL v c 8 ++ (rowsL v 5 ++ (parL v 5 ++ (whoL v 9 ++ (rooL v (cnt v) ++ (kepL kt 2 ++ ([(nI l).toInt64] ++ texL bf l))))))
theorem hx_s {f : Nat → List Int64} (h : Int64) (i : Nat) : hx h (mapL f (i + 1)) = hx (hx h (mapL f i)) (f i) := hx_app _ _ _
theorem hx_s1 {f : Nat → Int64} (h : Int64) (i : Nat) : hx h (mapL (fun k => [f k]) (i + 1)) = mx (hx h (mapL (fun k => [f k]) i)) (f i) := hx_app _ _ _
/-- a loop that folds and leaves the memory -/
theorem loopH {α : Type} (F : (Int64 → Int32 → Option α) → Nat → Int64 → Int32 → Option α) (N : Nat) (f : Nat → List Int64)
    (hs : ∀ i, i < N → ∀ k n h, F k (n + 1) h (nI i) = F k n (hx h (f i)) (nI (i + 1)))
    (he : ∀ k n h, F k (n + 1) h (nI N) = k h (nI N)) : ∀ n, N < n → ∀ k h, F k n h 0 = k (hx h (mapL f N)) (nI N) := by
  have go : ∀ j i n, i + j = N → j < n → ∀ k h, F k n (hx h (mapL f i)) (nI i) = k (hx h (mapL f N)) (nI N) := by
    intro j
    induction j with
    | zero =>
      intro i n hi hn k h
      obtain ⟨n, rfl⟩ := suc_of hn
      rw [show i = N by omega, he]
    | succ j ih =>
      intro i n hi hn k h
      obtain ⟨n, rfl⟩ := suc_of hn
      rw [hs i (by omega), ← hx_s, ih (i + 1) n (by omega) (by omega)]
  intro n hn k h
  exact go N 0 n (by omega) hn k h
theorem loopHM {α : Type} (F : (Mem → Int64 → Int32 → Option α) → Nat → Mem → Int64 → Int32 → Option α) (N : Nat) (f : Nat → List Int64) (M : Mem)
    (hs : ∀ i, i < N → ∀ k n h, F k (n + 1) M h (nI i) = F k n M (hx h (f i)) (nI (i + 1)))
    (he : ∀ k n h, F k (n + 1) M h (nI N) = k M h (nI N)) : ∀ n, N < n → ∀ k h, F k n M h 0 = k M (hx h (mapL f N)) (nI N) := by
  have go : ∀ j i n, i + j = N → j < n → ∀ k h, F k n M (hx h (mapL f i)) (nI i) = k M (hx h (mapL f N)) (nI N) := by
    intro j
    induction j with
    | zero =>
      intro i n hi hn k h
      obtain ⟨n, rfl⟩ := suc_of hn
      rw [show i = N by omega, he]
    | succ j ih =>
      intro i n hi hn k h
      obtain ⟨n, rfl⟩ := suc_of hn
      rw [hs i (by omega), ← hx_s, ih (i + 1) n (by omega) (by omega)]
  intro n hn k h
  exact go N 0 n (by omega) hn k h
theorem c_dig6 {M : Mem} (hI : Inv M) {c : Nat} (h3 : mI M 0 2 = nI c) : ∀ k h, fX2_digest_6 (some 0) k FU M h 0 = k M (hx h (tcL (mI M 118) c 8)) (nI 8) := by
  refine loopHM (fX2_digest_6 (some 0)) 8 (fun w => [(tcV (mI M 118) c w).toInt64]) M (fun i hi k n h => ?_) (fun k n h => ?_) FU (fu_9 (by decide))
  · rw [fX2_digest_6, if_neg (show ¬ (8 : Int32) ≤ nI i from ge_f (N := 8) hi (by decide)), kk M hI.hc, Option.bind_some, s_count hI h3 hi, Option.bind_some, thr_r, s_mixed, Option.bind_some, nI_1]
    rfl
  · rw [fX2_digest_6, if_pos (by decide)]
theorem c_dig31 {M : Mem} (hI : Inv M) : ∃ M2, Kp M M2 ∧ ∀ k h, fX2_digest_31 (some 0) k FU M h 0 = k M2 (hx h (rowsL (mI M 118) 5)) (nI 5) := by
  have go : ∀ j i n (M1 : Mem), i + j = 5 → j < n → Kp M M1 → ∃ M2, Kp M M2 ∧ ∀ k h, fX2_digest_31 (some 0) k n M1 (hx h (rowsL (mI M 118) i)) (nI i) = k M2 (hx h (rowsL (mI M 118) 5)) (nI 5) := by
    intro j
    induction j with
    | zero =>
      intro i n M1 hi hn kp
      obtain ⟨n, rfl⟩ := suc_of hn
      have : i = 5 := by omega
      subst this
      exact ⟨M1, kp, fun k h => by rw [fX2_digest_31, if_pos (by decide)]⟩
    | succ j ih =>
      intro i n M1 hi hn kp
      obtain ⟨n, rfl⟩ := suc_of hn
      obtain ⟨M2, p2, e2⟩ := c_poly kp.1 (n := i) (by omega)
      rw [kp.2 118 (by decide)] at e2
      obtain ⟨M3, p3, e3⟩ := ih (i + 1) n M2 (by omega) (by omega) (kp_tr kp p2)
      refine ⟨M3, p3, fun k h => ?_⟩
      have e := e3 k h
      rw [rowsL, hx_s] at e
      rw [fX2_digest_31, if_neg (lt5_f i (by omega)), now_row kp.1.hc (by omega), kk M1 kp.1.hc, Option.bind_some, e2, Option.bind_some, nI_1]
      exact e
  exact go 5 0 FU M rfl (fu_9 (by decide)) ⟨hI, fun _ _ => rfl⟩
theorem c_pairs {M : Mem} (hI : Inv M) (h0 : Int64) : fX2_mixedPairs M (some 0) h0 = some (hx h0 (parL (mI M 118) 5)) := by
  have hc := hI.hc
  have inner : ∀ a, a < 5 → ∀ k h, fX2_mixedPairs_14 M (some 0) h0 (nI a) k FU h 0 = k (hx h (mapL (fun b => pairL (mI M 118) a b) 5)) (nI 5) := by
    intro a ha
    obtain ⟨hr, er⟩ := hI.row ha
    refine loopH (fX2_mixedPairs_14 M (some 0) h0 (nI a)) 5 (fun b => pairL (mI M 118) a b) (fun i hi k n h => ?_) (fun k n h => ?_) FU (fu_9 (by decide))
    · obtain ⟨hr2, er2⟩ := hI.row hi
      have f0 := s_rowsOf hr hr2 (by rw [er]; exact hI.sg.row ha) (by rw [er2]; exact hI.sg.row hi) 0
      have f1 := s_rowsOf hr hr2 (by rw [er]; exact hI.sg.row ha) (by rw [er2]; exact hI.sg.row hi) 1
      rw [er, er2] at f0 f1
      rw [fX2_mixedPairs_14, if_neg (lt5_f i hi), now_row hc ha, now_row hc hi, f0, Option.bind_some, s_mixed, Option.bind_some, now_row hc ha, now_row hc hi, f1, Option.bind_some, s_mixed, Option.bind_some, nI_1]
      rfl
    · rw [fX2_mixedPairs_14, if_pos (by decide)]
  unfold fX2_mixedPairs
  have e := loopH (fX2_mixedPairs_5 M (some 0) h0) 5 (fun a => mapL (fun b => pairL (mI M 118) a b) 5) (fun i hi k n h => by
    rw [fX2_mixedPairs_5, if_neg (lt5_f i hi), inner i hi, nI_1]) (fun k n h => by rw [fX2_mixedPairs_5, if_pos (by decide)]) FU (fu_9 (by decide))
  rw [e]
  rfl
