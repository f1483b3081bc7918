/-! in pairs, 4 -/
section PCP4
theorem pc_ok28 : pc_L.all (pc_ok pc_f28 pc_R28) = true := by decide +kernel
theorem pc_ok29 : pc_L.all (pc_ok pc_f29 pc_R29) = true := by decide +kernel
theorem pc_ok30 : pc_L.all (pc_ok pc_f30 pc_R30) = true := by decide +kernel
theorem pc_ok31 : pc_L.all (pc_ok pc_f31 pc_R31) = true := by decide +kernel
theorem pc_ok32 : pc_L.all (pc_ok pc_f32 pc_R32) = true := by decide +kernel
theorem pc_ok33 : pc_L.all (pc_ok pc_f33 pc_R33) = true := by decide +kernel
theorem pc_ok34 : pc_L.all (pc_ok pc_f34 pc_R34) = true := by decide +kernel
end PCP4
