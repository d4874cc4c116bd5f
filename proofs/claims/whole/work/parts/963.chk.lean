/-! ===== the checks, by the kernel ===== -/
theorem zka_208 : ((List.range' 208 8).all fun y => (List.range (zK y).length).all (zokI y) && zokM y) = true := by decide +kernel
theorem zka_216 : ((List.range' 216 6).all fun y => (List.range (zK y).length).all (zokI y) && zokM y) = true := by decide +kernel
theorem zka_222 : ((List.range' 222 8).all fun y => (List.range (zK y).length).all (zokI y) && zokM y) = true := by decide +kernel
theorem zka_230 : ((List.range' 230 8).all fun y => (List.range (zK y).length).all (zokI y) && zokM y) = true := by decide +kernel
theorem zka_238 : ((List.range' 238 8).all fun y => (List.range (zK y).length).all (zokI y) && zokM y) = true := by decide +kernel
theorem zka_246 : ((List.range' 246 8).all fun y => (List.range (zK y).length).all (zokI y) && zokM y) = true := by decide +kernel
