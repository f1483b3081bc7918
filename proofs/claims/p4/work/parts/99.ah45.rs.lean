/-! a sign takes a byte -/
section PTD
theorem pt_RS_gt {T : Int → Int} {k k' r : Int} (h : pt_RS T k k' r) (hs : pt_sk T k = k) (ht : pt_tk T k = 43 ∨ pt_tk T k = 45) : k + 1 ≤ k' := by
  have c := pt_c5 T k
  have z := h trivial
  rw [hs] at z
  omega
/-- rows ahead, and a row of 0 -/
theorem pm_rg_z3 {σ τ ρ : pm_H} {x1 x2 : Int} (h : pm_rg σ 35 0 (3 * x1) (-1) 1) (he : pm_er τ 35 0 (3 * x1) (σ 35)) (hz : pm_rg τ 35 (3 * x1) (3 * x1 + x2) 0 0) (h2 : 3 ≤ x2) (e : ρ 35 = τ 35) : pm_rg ρ 35 0 (3 * x1 + 3) (-1) 1 := by
  intro k a b
  rw [e]
  by_cases c : k < 3 * x1
  · have z := he k a c
    have y := h k a c
    omega
  · have z := hz k (by omega) (by omega)
    omega
end PTD
