/-! in pairs, 0 -/
section PCP0
theorem pc_ok0 : pc_L.all (pc_ok pc_f0 pc_R0) = true := by decide +kernel
theorem pc_ok1 : pc_L.all (pc_ok pc_f1 pc_R1) = true := by decide +kernel
theorem pc_ok2 : pc_L.all (pc_ok pc_f2 pc_R2) = true := by decide +kernel
theorem pc_ok3 : pc_L.all (pc_ok pc_f3 pc_R3) = true := by decide +kernel
theorem pc_ok4 : pc_L.all (pc_ok pc_f4 pc_R4) = true := by decide +kernel
theorem pc_ok5 : pc_L.all (pc_ok pc_f5 pc_R5) = true := by decide +kernel
theorem pc_ok6 : pc_L.all (pc_ok pc_f6 pc_R6) = true := by decide +kernel
end PCP0
