/-! more of the class -/
section CL2
theorem pv_GL_f0 {σ τ : pm_H} {h : Nat} {as : List Nat} {fs : List (Nat × Int)} (hf : pm_fr as fs σ τ) (ha : ∀ q ∈ as, q < 41) (hs : ∀ z ∈ fs, z.1 < 41) (hh : pm_isG h) (hl : pv_GL σ h) : pv_GL τ h := by
  have a2 := pm_isG_n hh
  have n1 : ∀ q : Nat, 41 ≤ q → q ∉ as := fun q q0 z => by
    have := ha q z
    omega
  have n2 : ∀ (q : Nat) (k : Int), 41 ≤ q → (q, k) ∉ fs := fun q k q0 z => by
    have := hs _ z
    dsimp only at this
    omega
  refine pv_GL_eq hl (hf h 5 (n1 _ (by omega)) (n2 _ _ (by omega))) (hf h 6 (n1 _ (by omega)) (n2 _ _ (by omega))) (hf h 7 (n1 _ (by omega)) (n2 _ _ (by omega))) (fun k k1 k2 => ?_)
  rw [hf (h + 4) k (n1 _ (by omega)) (n2 _ _ (by omega))]
  exact pv_GL_t hl k k1 k2
theorem pv_mm1 {a b : Int} : a ≤ pm_mm 1 a b ∧ b ≤ pm_mm 1 a b ∧ (pm_mm 1 a b = a ∨ pm_mm 1 a b = b) := by
  unfold pm_mm
  rw [if_neg (by decide)]
  split <;> omega
theorem pv_sq {s : Int} (h1 : 1 ≤ s) (h2 : s ≤ 13) : (1 ≤ s * s ∧ s * s ≤ 169) ∧ (1 ≤ s * s * s ∧ s * s * s ≤ 2197) := by
  rcases (by omega : s = 1 ∨ s = 2 ∨ s = 3 ∨ s = 4 ∨ s = 5 ∨ s = 6 ∨ s = 7 ∨ s = 8 ∨ s = 9 ∨ s = 10 ∨ s = 11 ∨ s = 12 ∨ s = 13) with rfl | rfl | rfl | rfl | rfl | rfl | rfl | rfl | rfl | rfl | rfl | rfl | rfl <;> decide
end CL2
