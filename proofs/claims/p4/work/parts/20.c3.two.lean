/-! in pairs, 3 -/
section PCP3
theorem pc_ok21 : pc_L.all (pc_ok pc_f21 pc_R21) = true := by decide +kernel
theorem pc_ok22 : pc_L.all (pc_ok pc_f22 pc_R22) = true := by decide +kernel
theorem pc_ok23 : pc_L.all (pc_ok pc_f23 pc_R23) = true := by decide +kernel
theorem pc_ok24 : pc_L.all (pc_ok pc_f24 pc_R24) = true := by decide +kernel
theorem pc_ok25 : pc_L.all (pc_ok pc_f25 pc_R25) = true := by decide +kernel
theorem pc_ok26 : pc_L.all (pc_ok pc_f26 pc_R26) = true := by decide +kernel
theorem pc_ok27 : pc_L.all (pc_ok pc_f27 pc_R27) = true := by decide +kernel
end PCP3
