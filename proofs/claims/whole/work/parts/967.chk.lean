/-! ===== the checks, by the kernel: the law ===== -/
theorem zkl_1440 : ((List.range' 1440 120).all (zokI 315)) = true := by decide +kernel
theorem zkl_1560 : ((List.range' 1560 120).all (zokI 315)) = true := by decide +kernel
