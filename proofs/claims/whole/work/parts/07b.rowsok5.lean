/-! the law's rows, on -/
theorem am_okl4 : am_all 180 am_c180 192 am_lw4 = true := by decide +kernel
theorem am_okl5 : am_all 180 am_c180 240 am_lw5 = true := by decide +kernel
theorem am_okl6 : am_all 180 am_c180 288 am_lw6 = true := by decide +kernel
theorem am_okl7 : am_all 180 am_c180 336 am_lw7 = true := by decide +kernel
