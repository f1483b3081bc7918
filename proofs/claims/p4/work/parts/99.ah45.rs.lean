/-! a sign takes a byte -/
section PTD
theorem pt_RS_gt {T : Int → Int} {k k' r : Int} (h : pt_RS T k k' r) (hs : pt_sk T k = k) (ht : pt_tk T k = 43 ∨ pt_tk T k = 45) : k + 1 ≤ k' := by
  have c := pt_c5 T k
  have z := h trivial
  rw [hs] at z
  omega
end PTD
