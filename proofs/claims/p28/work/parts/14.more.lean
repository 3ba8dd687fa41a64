/-! ===== more rows ===== -/
theorem ite_t {c : Prop} [Decidable c] {α : Type} {A B r : α} (hc : c) (h : (if c then A else B) = r) : A = r := by rw [if_pos hc] at h; exact h
theorem ite_f {c : Prop} [Decidable c] {α : Type} {A B r : α} (hc : ¬ c) (h : (if c then A else B) = r) : B = r := by rw [if_neg hc] at h; exact h
theorem ite_c {c : Prop} [Decidable c] {α : Type} {A B r : α} {G : Prop} (h : (if c then A else B) = r) (kt : c → A = r → G) (kf : ¬ c → B = r → G) : G := by
  by_cases hc : c
  · exact kt hc (ite_t hc h)
  · exact kf hc (ite_f hc h)
theorem ck_c {ci : Nat} {M : Mem} {o : Option Nat} {α : Type} {f : Unit → Option α} {r : α} {G : Prop} (h : (ck ci M o).bind f = some r) (kk : (∃ i, o = some i ∧ i < M.1 ∧ kd i = ci) → f () = some r → G) : G := by
  obtain ⟨u, hu, hf⟩ := bnd h
  exact kk (ck_s hu) hf
theorem bnd_c {α β : Type} {o : Option α} {f : α → Option β} {r : β} {G : Prop} (h : o.bind f = some r) (kk : ∀ v, o = some v → f v = some r → G) : G := by
  obtain ⟨v, hv, hf⟩ := bnd h
  exact kk v hv hf
theorem thr_c {α β : Type} {w : Mem × (String ⊕ α)} {k : α → Option (Mem × (String ⊕ β))} {r : Mem × (String ⊕ β)} {G : Prop} (h : thr w k = some r) (kx : ∀ E, w.2 = .inl E → r = (w.1, .inl E) → G) (kk : ∀ v, w.2 = .inr v → k v = some r → G) : G := by
  obtain ⟨M, E | v⟩ := w
  · exact kx E rfl (Option.some.inj h).symm
  · exact kk v rfl h
/-- a guard on a number that a machine row needs -/
def chk {α : Type} (b : Bool) (k : Option α) : Option α := if b = true then k else none
theorem chk_c {α : Type} {b : Bool} {k : Option α} {r : α} {G : Prop} (h : chk b k = some r) (kk : b = true → k = some r → G) : G := by
  unfold chk at h
  split at h
  case isTrue hb => exact kk hb h
  case isFalse => cases h
def n64b (x : UInt64) : Bool := decide (x &&& 0x7fffffffffffffff ≤ 0x7ff0000000000000)
theorem n64_of {x : UInt64} (h : n64b x = true) : vf_n64 x := by
  unfold vf_n64
  simpa [n64b] using h
theorem ne_of_chk {a b : Int32} (h : (!(a == b)) = true) : ¬ a = b := by simpa using h
theorem J_dcmp {C : JC} {x : Bool} {cc : ByteArray} {nL : Nat} {rm : Room} {rt : Option FieldType} {own : String} {res : Res} {ce sl : Nat} {M : Mem} {pc : Nat} {lv : List (Nat × Value)} {st : List Value} {a b : UInt64} {op : CmpOp} (hC : Ok C x cc nL rm rt own res) (hdg : decode cc pc = .ok (.dcmp op, 1))
    (kk : J C ce sl M (pc + 1) lv (.int (Op.cmpValue (FP.dcmp a b) op) :: st)) : J C ce sl M pc lv (.double b :: .double a :: st) := by
  obtain ⟨p, l, e, R, s, m, args, below, meth, c, H0, A, Q, nL0, G, ad0, n0⟩ := C
  obtain ⟨hx, hb, hml, hnl, hown, hts, hKK, hH0, hA, hlk, hrt, hR, hQ, hxt⟩ := hC
  intro ad H locs ls hW hAa hag hn hvl hvs hS hl
  exact lv_dcmp hx hb hdg (kk ad H locs ls hW hAa hag hn hvl (vs_c Vok_int (vs_t (vs_t hvs))) hS hl)
theorem J_ldcw {C : JC} {x : Bool} {cc : ByteArray} {nL : Nat} {rm : Room} {rt : Option FieldType} {own : String} {res : Res} {ce sl : Nat} {M : Mem} {pc : Nat} {lv : List (Nat × Value)} {st : List Value} {index : Nat} {v : Int32} (hC : Ok C x cc nL rm rt own res) (hw : Cond.constant own index v ∈ BIG) (hdg : decode cc pc = .ok (.ldc_w index, 3))
    (kk : J C ce sl M (pc + 3) lv (.int v :: st)) : J C ce sl M pc lv st := by
  obtain ⟨p, l, e, R, s, m, args, below, meth, c, H0, A, Q, nL0, G, ad0, n0⟩ := C
  obtain ⟨hx, hb, hml, hnl, hown, hts, hKK, hH0, hA, hlk, hrt, hR, hQ, hxt⟩ := hC
  intro ad H locs ls hW hAa hag hn hvl hvs hS hl
  exact lv_ldcw hx hb hown (hts _ hw) hdg (kk ad H locs ls hW hAa hag hn hvl (vs_c Vok_int hvs) hS hl)
theorem J_inc {C : JC} {x : Bool} {cc : ByteArray} {nL : Nat} {rm : Room} {rt : Option FieldType} {own : String} {res : Res} {ce sl : Nat} {M : Mem} {pc : Nat} {lv : List (Nat × Value)} {st : List Value} {i j : Nat} {n : Int} {v k : Int32} {lv' : List (Nat × Value)} (hC : Ok C x cc nL rm rt own res) (hdg : decode cc pc = .ok (.iinc i n, 3)) (hi : i < nL) (hj : lv[j]? = some (i, .int v)) (hk : Int32.ofInt n = k) (hlv : (i, Value.int (v + k)) :: lv.filter (fun q => !(q.1 == i) && !(q.1 + 1 == i && q.2.category == 2)) = lv')
    (kk : J C ce sl M (pc + 3) lv' st) : J C ce sl M pc lv st := J_iinc hC hdg hi hj (by rw [hk]) hlv kk
theorem ne_toInt {a k : Int32} (h : ¬ a = k) : a.toInt ≠ k.toInt := fun e => h (Int32.toInt_inj.mp e)
theorem J_tabIn {C : JC} {x : Bool} {cc : ByteArray} {nL : Nat} {rm : Room} {rt : Option FieldType} {own : String} {res : Res} {ce sl : Nat} {M : Mem} {pc : Nat} {lv : List (Nat × Value)} {st : List Value} {dflt lo hi off : Int} {offs : Array Int} {len tgt : Nat} {a k : Int32} (hC : Ok C x cc nL rm rt own res) (hdg : decode cc pc = .ok (.tableswitch dflt lo hi offs, len)) (hak : a = k) (h1 : ¬ k.toInt < lo) (h2 : ¬ hi < k.toInt) (ho : offs[(k.toInt - lo).toNat]? = some off) (ht : (pc : Int) + off = (tgt : Int)) (kk : J C ce sl M tgt lv st) : J C ce sl M pc lv (.int a :: st) := by
  subst hak
  exact J_tableIn hC hdg h1 h2 ho ht kk
def thrE {α β : Type} (w : String ⊕ α) (fx : String → β) (k : α → β) : β := match w with
  | .inl E => fx E
  | .inr v => k v
theorem thrE_c {α β : Type} {w : String ⊕ α} {fx : String → β} {k : α → β} {r : β} {G : Prop} (h : thrE w fx k = r) (kx : ∀ E, w = .inl E → fx E = r → G) (kk : ∀ v, w = .inr v → k v = r → G) : G := by
  cases w with
  | inl E => exact kx E rfl h
  | inr v => exact kk v rfl h
def mapR {α : Type} (tv : α → Option Value) (w : String ⊕ α) : String ⊕ Option Value := match w with
  | .inl E => .inl E
  | .inr v => .inr (tv v)
def zb (x : Int32) : Bool := x == 0 || x == 1
theorem zb_nar {x : Int32} (h : zb x = true) : narrow .boolean (.int x) = .int x := by
  have h2 : x = 0 ∨ x = 1 := by simpa [zb] using h
  rcases h2 with rfl | rfl <;> decide
/-- more steps than any loop of the class takes -/
def FU : Nat := 2000000
