/-! ===== the checks, by the kernel: the law ===== -/
theorem zkl_720 : ((List.range' 720 120).all (zokI 315)) = true := by decide +kernel
theorem zkl_840 : ((List.range' 840 120).all (zokI 315)) = true := by decide +kernel
