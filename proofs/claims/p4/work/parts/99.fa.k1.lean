section AXK1
set_option maxRecDepth 1000000 in
theorem ax_k_h1 : ax_is (ax_run (ax_lstp 0) (fun pc => pc == 8) 2000 [ax_S0] []) ax_S8 = true := by decide +kernel
end AXK1
