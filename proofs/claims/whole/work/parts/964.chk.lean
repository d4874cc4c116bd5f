/-! ===== the checks, by the kernel ===== -/
theorem zka_254 : ((List.range' 254 6).all fun y => (List.range (zK y).length).all (zokI y) && zokM y) = true := by decide +kernel
theorem zka_260 : ((List.range' 260 5).all fun y => (List.range (zK y).length).all (zokI y) && zokM y) = true := by decide +kernel
theorem zka_265 : ((List.range' 265 4).all fun y => (List.range (zK y).length).all (zokI y) && zokM y) = true := by decide +kernel
theorem zka_269 : ((List.range' 269 15).all fun y => (List.range (zK y).length).all (zokI y) && zokM y) = true := by decide +kernel
theorem zka_284 : ((List.range' 284 23).all fun y => (List.range (zK y).length).all (zokI y) && zokM y) = true := by decide +kernel
theorem zka_307 : ((List.range' 307 8).all fun y => (List.range (zK y).length).all (zokI y) && zokM y) = true := by decide +kernel
