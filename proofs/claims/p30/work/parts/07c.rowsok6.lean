/-! the law's rows, on -/
theorem am_okl10 : am_all 180 am_c180 480 am_lw10 = true := by decide +kernel
theorem am_okl11 : am_all 180 am_c180 528 am_lw11 = true := by decide +kernel
theorem am_okl12 : am_all 180 am_c180 576 am_lw12 = true := by decide +kernel
theorem am_okl13 : am_all 180 am_c180 624 am_lw13 = true := by decide +kernel
set_option maxRecDepth 1000000 in
theorem am_lw_eq : am_c180 = am_lw0 ++ (am_lw1 ++ (am_lw2 ++ (am_lw3 ++ (am_lw4 ++ (am_lw5 ++ (am_lw6 ++ (am_lw7 ++ (am_lw8 ++ (am_lw9 ++ (am_lw10 ++ (am_lw11 ++ (am_lw12 ++ (am_lw13))))))))))))) := by rfl
set_option maxRecDepth 1000000 in
theorem am_ok180 : am_all 180 am_c180 0 am_c180 = true := by
  have h : am_all 180 am_c180 0 (am_lw0 ++ (am_lw1 ++ (am_lw2 ++ (am_lw3 ++ (am_lw4 ++ (am_lw5 ++ (am_lw6 ++ (am_lw7 ++ (am_lw8 ++ (am_lw9 ++ (am_lw10 ++ (am_lw11 ++ (am_lw12 ++ (am_lw13)))))))))))))) = true := (am_all_app am_okl0 rfl (am_all_app am_okl1 rfl (am_all_app am_okl2 rfl (am_all_app am_okl3 rfl (am_all_app am_okl4 rfl (am_all_app am_okl5 rfl (am_all_app am_okl6 rfl (am_all_app am_okl7 rfl (am_all_app am_okl8 rfl (am_all_app am_okl9 rfl (am_all_app am_okl10 rfl (am_all_app am_okl11 rfl (am_all_app am_okl12 rfl am_okl13)))))))))))))
  rw [← am_lw_eq] at h
  exact h
