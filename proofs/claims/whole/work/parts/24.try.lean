theorem am_try1 : (List.range 10).all am_hB = true := by decide +kernel
theorem am_try2 : (List.range 10).all am_xB = true := by decide +kernel
theorem am_try3 : (List.range 10).all am_dB = true := by decide +kernel
