/-! ===== pure: the law's loop ===== -/
section WR
variable {σ : ky_St}
theorem lg_cmp_self (x : Int64) : lg_cmp x x = 0 := by
  unfold lg_cmp
  simp
end WR
