/-! the words lie in the tables (a first chunk) -/
theorem lwW1 : (zW1.all fun w => decide (w ∈ lw_tbl)) = true := by decide +kernel
