/-! ===== the checks, by the kernel: the law ===== -/
theorem zkl_1200 : ((List.range' 1200 40).all (zokI 315)) = true := by decide +kernel
theorem zkl_1240 : ((List.range' 1240 40).all (zokI 315)) = true := by decide +kernel
theorem zkl_1280 : ((List.range' 1280 40).all (zokI 315)) = true := by decide +kernel
theorem zkl_1320 : ((List.range' 1320 40).all (zokI 315)) = true := by decide +kernel
theorem zkl_1360 : ((List.range' 1360 40).all (zokI 315)) = true := by decide +kernel
theorem zkl_1400 : ((List.range' 1400 40).all (zokI 315)) = true := by decide +kernel
