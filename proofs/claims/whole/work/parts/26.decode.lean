theorem am_dB_7 : (List.range 40).all (fun i => am_dB (213 + i)) = true := by decide +kernel
theorem am_dB_8 : (List.range 17).all (fun i => am_dB (253 + i)) = true := by decide +kernel
theorem am_dB_9 : (List.range 30).all (fun i => am_dB (270 + i)) = true := by decide +kernel
theorem am_dB_10 : (List.range 27).all (fun i => am_dB (300 + i)) = true := by decide +kernel
theorem am_dB_11 : (List.range 26).all (fun i => am_dB (327 + i)) = true := by decide +kernel
theorem am_dB_12 : (List.range 8).all (fun i => am_dB (353 + i)) = true := by decide +kernel
