theorem am_dB_0 : (List.range 33).all (fun i => am_dB (0 + i)) = true := by decide +kernel
theorem am_dB_1 : (List.range 25).all (fun i => am_dB (33 + i)) = true := by decide +kernel
theorem am_dB_2 : (List.range 36).all (fun i => am_dB (58 + i)) = true := by decide +kernel
theorem am_dB_3 : (List.range 29).all (fun i => am_dB (94 + i)) = true := by decide +kernel
theorem am_dB_4 : (List.range 29).all (fun i => am_dB (123 + i)) = true := by decide +kernel
theorem am_dB_5 : (List.range 24).all (fun i => am_dB (152 + i)) = true := by decide +kernel
theorem am_dB_6 : (List.range 37).all (fun i => am_dB (176 + i)) = true := by decide +kernel
