/-! Printed by wip/p1/gen2.py: every method's code against the machine's reading of it -/
theorem zkm0 : (List.range 16).all (fun i => zkM zEe zrr 259 (0 + i)) = true := by decide +kernel
theorem zkm1 : (List.range 16).all (fun i => zkM zEe zrr 259 (16 + i)) = true := by decide +kernel
theorem zkm2 : (List.range 16).all (fun i => zkM zEe zrr 259 (32 + i)) = true := by decide +kernel
theorem zkm3 : (List.range 16).all (fun i => zkM zEe zrr 259 (48 + i)) = true := by decide +kernel
theorem zkm4 : (List.range 16).all (fun i => zkM zEe zrr 259 (64 + i)) = true := by decide +kernel
theorem zkm5 : (List.range 16).all (fun i => zkM zEe zrr 259 (80 + i)) = true := by decide +kernel
theorem zkm6 : (List.range 16).all (fun i => zkM zEe zrr 259 (96 + i)) = true := by decide +kernel
theorem zkm7 : (List.range 16).all (fun i => zkM zEe zrr 259 (112 + i)) = true := by decide +kernel
