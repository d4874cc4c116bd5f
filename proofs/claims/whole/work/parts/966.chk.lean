/-! ===== the checks, by the kernel: the law ===== -/
theorem zkl_720 : ((List.range' 720 120).all (zokI 315)) = true := by decide +kernel
theorem zkl_840 : ((List.range' 840 120).all (zokI 315)) = true := by decide +kernel
theorem zkl_960 : ((List.range' 960 120).all (zokI 315)) = true := by decide +kernel
theorem zkl_1080 : ((List.range' 1080 120).all (zokI 315)) = true := by decide +kernel
theorem zkl_1200 : ((List.range' 1200 120).all (zokI 315)) = true := by decide +kernel
theorem zkl_1320 : ((List.range' 1320 120).all (zokI 315)) = true := by decide +kernel
