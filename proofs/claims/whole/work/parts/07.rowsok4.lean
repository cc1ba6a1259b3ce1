/-! every row of every method (kernel) -/
theorem am_ok180 : am_all 180 am_c180 0 am_c180 = true := by decide +kernel
