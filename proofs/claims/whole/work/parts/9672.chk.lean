/-! ===== the checks, by the kernel: the law ===== -/
theorem zkl_1680 : ((List.range' 1680 120).all (zokI 315)) = true := by decide +kernel
theorem zkl_1800 : ((List.range' 1800 120).all (zokI 315)) = true := by decide +kernel
