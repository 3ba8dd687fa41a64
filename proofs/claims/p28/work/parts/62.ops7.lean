theorem cnt_eq {v : Nat → Int32} {i : Nat} (h : v 45 = nI i) (hi : i < 2 ^ 31) : cnt v = i := by unfold cnt; rw [h, nI_clamp hi]
