/-! ===== the checks, by the kernel: the law ===== -/
theorem zkl_960 : ((List.range' 960 120).all (zokI 315)) = true := by decide +kernel
theorem zkl_1080 : ((List.range' 1080 120).all (zokI 315)) = true := by decide +kernel
