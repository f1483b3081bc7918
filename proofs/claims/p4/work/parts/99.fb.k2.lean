section AXK2
set_option maxRecDepth 1000000 in
theorem ax_k_h2 : ax_is (ax_run (ax_lstp 0) (fun pc => pc == 16) 2000 [ax_S8] []) ax_S16 = true := by decide +kernel
end AXK2
