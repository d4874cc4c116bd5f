/-! ===== the checks, by the kernel: the law ===== -/
theorem zkl_0 : ((List.range' 0 120).all (zokI 315)) = true := by decide +kernel
theorem zkl_120 : ((List.range' 120 120).all (zokI 315)) = true := by decide +kernel
theorem zkl_240 : ((List.range' 240 120).all (zokI 315)) = true := by decide +kernel
theorem zkl_360 : ((List.range' 360 120).all (zokI 315)) = true := by decide +kernel
theorem zkl_480 : ((List.range' 480 120).all (zokI 315)) = true := by decide +kernel
theorem zkl_600 : ((List.range' 600 120).all (zokI 315)) = true := by decide +kernel
