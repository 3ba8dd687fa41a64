theorem now_row {M : Mem} {β : Type} (h : HC0 M) {n : Nat} (hn : n < 5) (F : Option Nat → Option β) : ((gR 2 0 M (some 0)).bind fun v5 => (gR 1 0 M v5).bind fun v6 => (aR 9 M v6 (nI n)).bind F) = F (some (1 + 2 + n)) := by
  rw [k0 M h, Option.bind_some, bk0 M 1 blk_1 h, Option.bind_some, bkr M 1 n hn blk_1 h, Option.bind_some]
theorem thr_r {α β : Type} (v : α) (fx : String → β) (k : α → β) : thrE (.inr v) fx k = k v := rfl
theorem thr_l {α β : Type} (E : String) (fx : String → β) (k : α → β) : thrE (.inl E) fx k = fx E := rfl
