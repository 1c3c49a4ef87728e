theorem cx_npos {d : Nat} (hd : d < 2 ^ 31) (h : nI d ≤ 0) : ¬ 0 < d := by
  rw [cx_n0] at h
  have := (nI_leI hd (by omega)).mp h
  omega
