/-! ===== the checks, by the kernel ===== -/
theorem zka_152 : ((List.range' 152 9).all fun y => (List.range (zK y).length).all (zokI y) && zokM y) = true := by decide +kernel
theorem zka_161 : ((List.range' 161 11).all fun y => (List.range (zK y).length).all (zokI y) && zokM y) = true := by decide +kernel
theorem zka_172 : ((List.range' 172 12).all fun y => (List.range (zK y).length).all (zokI y) && zokM y) = true := by decide +kernel
theorem zka_184 : ((List.range' 184 8).all fun y => (List.range (zK y).length).all (zokI y) && zokM y) = true := by decide +kernel
theorem zka_192 : ((List.range' 192 6).all fun y => (List.range (zK y).length).all (zokI y) && zokM y) = true := by decide +kernel
theorem zka_198 : ((List.range' 198 10).all fun y => (List.range (zK y).length).all (zokI y) && zokM y) = true := by decide +kernel
