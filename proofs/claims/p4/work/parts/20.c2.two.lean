/-! in pairs, 2 -/
section PCP2
theorem pc_ok14 : pc_L.all (pc_ok pc_f14 pc_R14) = true := by decide +kernel
theorem pc_ok15 : pc_L.all (pc_ok pc_f15 pc_R15) = true := by decide +kernel
theorem pc_ok16 : pc_L.all (pc_ok pc_f16 pc_R16) = true := by decide +kernel
theorem pc_ok17 : pc_L.all (pc_ok pc_f17 pc_R17) = true := by decide +kernel
theorem pc_ok18 : pc_L.all (pc_ok pc_f18 pc_R18) = true := by decide +kernel
theorem pc_ok19 : pc_L.all (pc_ok pc_f19 pc_R19) = true := by decide +kernel
theorem pc_ok20 : pc_L.all (pc_ok pc_f20 pc_R20) = true := by decide +kernel
end PCP2
