/-! in pairs, 5 -/
section PCP5
theorem pc_ok35 : pc_L.all (pc_ok pc_f35 pc_R35) = true := by decide +kernel
theorem pc_ok36 : pc_L.all (pc_ok pc_f36 pc_R36) = true := by decide +kernel
theorem pc_ok37 : pc_L.all (pc_ok pc_f37 pc_R37) = true := by decide +kernel
theorem pc_ok38 : pc_L.all (pc_ok pc_f38 pc_R38) = true := by decide +kernel
theorem pc_ok39 : pc_L.all (pc_ok pc_f39 pc_R39) = true := by decide +kernel
theorem pc_ok40 : pc_L.all (pc_ok pc_f40 pc_R40) = true := by decide +kernel
theorem pc_ok41 : pc_L.all (pc_ok pc_f41 pc_R41) = true := by decide +kernel
end PCP5
