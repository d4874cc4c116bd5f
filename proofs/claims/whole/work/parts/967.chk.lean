/-! ===== the checks, by the kernel: the law ===== -/
theorem zkl_1440 : ((List.range' 1440 40).all (zokI 315)) = true := by decide +kernel
theorem zkl_1480 : ((List.range' 1480 40).all (zokI 315)) = true := by decide +kernel
theorem zkl_1520 : ((List.range' 1520 40).all (zokI 315)) = true := by decide +kernel
theorem zkl_1560 : ((List.range' 1560 40).all (zokI 315)) = true := by decide +kernel
theorem zkl_1600 : ((List.range' 1600 40).all (zokI 315)) = true := by decide +kernel
theorem zkl_1640 : ((List.range' 1640 40).all (zokI 315)) = true := by decide +kernel
