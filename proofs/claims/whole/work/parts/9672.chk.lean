/-! ===== the checks, by the kernel: the law ===== -/
theorem zkl_1680 : ((List.range' 1680 40).all (zokI 315)) = true := by decide +kernel
theorem zkl_1720 : ((List.range' 1720 40).all (zokI 315)) = true := by decide +kernel
theorem zkl_1760 : ((List.range' 1760 40).all (zokI 315)) = true := by decide +kernel
theorem zkl_1800 : ((List.range' 1800 40).all (zokI 315)) = true := by decide +kernel
