theorem am_hB_0 : (List.range 92).all (fun i => am_hB (0 + i)) = true := by decide +kernel
theorem am_hB_1 : (List.range 92).all (fun i => am_hB (92 + i)) = true := by decide +kernel
theorem am_hB_2 : (List.range 92).all (fun i => am_hB (184 + i)) = true := by decide +kernel
theorem am_hB_3 : (List.range 85).all (fun i => am_hB (276 + i)) = true := by decide +kernel
theorem am_xB_0 : (List.range 129).all (fun i => am_xB (0 + i)) = true := by decide +kernel
theorem am_xB_1 : (List.range 131).all (fun i => am_xB (129 + i)) = true := by decide +kernel
theorem am_xB_2 : (List.range 101).all (fun i => am_xB (260 + i)) = true := by decide +kernel
