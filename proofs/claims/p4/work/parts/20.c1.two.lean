/-! in pairs, 1 -/
section PCP1
theorem pc_ok7 : pc_L.all (pc_ok pc_f7 pc_R7) = true := by decide +kernel
theorem pc_ok8 : pc_L.all (pc_ok pc_f8 pc_R8) = true := by decide +kernel
theorem pc_ok9 : pc_L.all (pc_ok pc_f9 pc_R9) = true := by decide +kernel
theorem pc_ok10 : pc_L.all (pc_ok pc_f10 pc_R10) = true := by decide +kernel
theorem pc_ok11 : pc_L.all (pc_ok pc_f11 pc_R11) = true := by decide +kernel
theorem pc_ok12 : pc_L.all (pc_ok pc_f12 pc_R12) = true := by decide +kernel
theorem pc_ok13 : pc_L.all (pc_ok pc_f13 pc_R13) = true := by decide +kernel
end PCP1
