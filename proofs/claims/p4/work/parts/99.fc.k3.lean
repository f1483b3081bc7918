section AXK3
set_option maxRecDepth 1000000 in
theorem ax_k_h3 : ax_is (ax_run (ax_lstp 0) (fun pc => pc == 23) 2000 [ax_S16] []) ax_SH = true := by decide +kernel
end AXK3
