/-! the rows of seven -/
theorem chk_7 : chk 7 = true := by decide +kernel
