/-! ===== the bounds, reckoned ===== -/
theorem tbc_t : tbc = true := by decide +kernel
