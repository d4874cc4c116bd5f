/-! ===== the checks, by the kernel ===== -/
theorem zka_0 : ((List.range' 0 15).all fun y => (List.range (zK y).length).all (zokI y) && zokM y) = true := by decide +kernel
theorem zka_15 : ((List.range' 15 10).all fun y => (List.range (zK y).length).all (zokI y) && zokM y) = true := by decide +kernel
theorem zka_25 : ((List.range' 25 8).all fun y => (List.range (zK y).length).all (zokI y) && zokM y) = true := by decide +kernel
theorem zka_33 : ((List.range' 33 18).all fun y => (List.range (zK y).length).all (zokI y) && zokM y) = true := by decide +kernel
theorem zka_51 : ((List.range' 51 11).all fun y => (List.range (zK y).length).all (zokI y) && zokM y) = true := by decide +kernel
theorem zka_62 : ((List.range' 62 9).all fun y => (List.range (zK y).length).all (zokI y) && zokM y) = true := by decide +kernel
