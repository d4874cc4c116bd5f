/-! ===== the checks, by the kernel ===== -/
theorem zka_71 : ((List.range' 71 14).all fun y => (List.range (zK y).length).all (zokI y) && zokM y) = true := by decide +kernel
theorem zka_85 : ((List.range' 85 10).all fun y => (List.range (zK y).length).all (zokI y) && zokM y) = true := by decide +kernel
theorem zka_95 : ((List.range' 95 9).all fun y => (List.range (zK y).length).all (zokI y) && zokM y) = true := by decide +kernel
theorem zka_104 : ((List.range' 104 18).all fun y => (List.range (zK y).length).all (zokI y) && zokM y) = true := by decide +kernel
theorem zka_122 : ((List.range' 122 13).all fun y => (List.range (zK y).length).all (zokI y) && zokM y) = true := by decide +kernel
theorem zka_135 : ((List.range' 135 17).all fun y => (List.range (zK y).length).all (zokI y) && zokM y) = true := by decide +kernel
