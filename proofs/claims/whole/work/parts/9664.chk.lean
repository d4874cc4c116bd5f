/-! ===== the checks, by the kernel: the law ===== -/
theorem zkl_1200 : ((List.range' 1200 120).all (zokI 315)) = true := by decide +kernel
theorem zkl_1320 : ((List.range' 1320 120).all (zokI 315)) = true := by decide +kernel
