/-! ===== the checks, by the kernel: the law ===== -/
theorem zkl_960 : ((List.range' 960 40).all (zokI 315)) = true := by decide +kernel
theorem zkl_1000 : ((List.range' 1000 40).all (zokI 315)) = true := by decide +kernel
theorem zkl_1040 : ((List.range' 1040 40).all (zokI 315)) = true := by decide +kernel
theorem zkl_1080 : ((List.range' 1080 40).all (zokI 315)) = true := by decide +kernel
theorem zkl_1120 : ((List.range' 1120 40).all (zokI 315)) = true := by decide +kernel
theorem zkl_1160 : ((List.range' 1160 40).all (zokI 315)) = true := by decide +kernel
