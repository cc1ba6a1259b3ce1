/-! the law's rows, on -/
theorem am_okl6 : am_all 180 am_c180 288 am_lw6 = true := by decide +kernel
theorem am_okl7 : am_all 180 am_c180 336 am_lw7 = true := by decide +kernel
theorem am_okl8 : am_all 180 am_c180 384 am_lw8 = true := by decide +kernel
theorem am_okl9 : am_all 180 am_c180 432 am_lw9 = true := by decide +kernel
