/-! generators of the reference: small matrices of determinant 1 or -1 -/
section GOK
def pm_gok (τ : pm_H) (n : Int) : Prop := ∀ g : Int, 0 ≤ g → g < n → (∀ k : Int, 0 ≤ k → k < 9 → -1 ≤ τ 81 (12 * g + k) ∧ τ 81 (12 * g + k) ≤ 1) ∧ (∀ k : Int, 9 ≤ k → k < 12 → 0 ≤ τ 81 (12 * g + k) ∧ τ 81 (12 * g + k) ≤ 23) ∧ (pm_det (τ 81) (12 * g) = 1 ∨ pm_det (τ 81) (12 * g) = -1)
theorem pm_gok_0 {τ : pm_H} {n : Int} (h : n ≤ 0) : pm_gok τ n := fun g h1 h2 => by omega
theorem pm_gok_eq {σ τ : pm_H} {n : Int} (h : pm_gok σ n) (e : τ 81 = σ 81) : pm_gok τ n := by
  intro g h1 h2
  rw [e]
  exact h g h1 h2
theorem pm_gok_eq2 {σ τ : pm_H} {n m : Int} (h : pm_gok σ n) (hm : m = n) (e : τ 81 = σ 81) : pm_gok τ m := by
  subst hm
  exact pm_gok_eq h e
theorem pm_gok_up {τ : pm_H} {n : Int} {q : Nat} {i v : Int} (h : pm_gok τ n) (hq : q ≠ 81) : pm_gok (pm_up τ q i v) n := pm_gok_eq h (pu_ne (Ne.symm hq))
theorem pm_det_congr {f g : Int → Int} {a b : Int} (h : ∀ k : Int, 0 ≤ k → k < 9 → f (a + k) = g (b + k)) : pm_det f a = pm_det g b := by
  unfold pm_det
  have h0 := h 0 (by omega) (by omega)
  rw [Int.add_zero, Int.add_zero] at h0
  rw [h0, h 1 (by omega) (by omega), h 2 (by omega) (by omega), h 3 (by omega) (by omega), h 4 (by omega) (by omega), h 5 (by omega) (by omega), h 6 (by omega) (by omega), h 7 (by omega) (by omega), h 8 (by omega) (by omega)]
theorem pm_gok_push {σ τ : pm_H} {n n' : Int} (h : pm_gok σ n) (hn : 0 ≤ n) (hn' : n' = n + 1) (h1 : pm_er τ 81 0 (12 * n) (σ 81)) (h2 : pm_er τ 81 (12 * n) (12 * n + 9) (fun k => σ 83 (k - 12 * n))) (h3 : pm_rg τ 81 (12 * n + 9) (12 * n + 12) 0 23) (h4 : pm_rg σ 83 0 9 (-1) 1) (h5 : pm_det (σ 83) 0 = 1 ∨ pm_det (σ 83) 0 = -1) : pm_gok τ n' := by
  subst hn'
  intro g g1 g2
  by_cases hg : g = n
  · subst hg
    refine ⟨fun k k1 k2 => ?_, fun k k1 k2 => h3 _ (by omega) (by omega), ?_⟩
    · rw [h2 _ (by omega) (by omega)]
      exact h4 _ (by omega) (by omega)
    · have e : pm_det (τ 81) (12 * g) = pm_det (σ 83) 0 := pm_det_congr (fun k k1 k2 => by
        rw [h2 _ (by omega) (by omega)]
        show σ 83 (12 * g + k - 12 * g) = σ 83 (0 + k)
        congr 1
        omega)
      rw [e]
      exact h5
  · obtain ⟨a1, a2, a3⟩ := h g g1 (by omega)
    refine ⟨fun k k1 k2 => ?_, fun k k1 k2 => ?_, ?_⟩
    · rw [h1 _ (by omega) (by omega)]
      exact a1 k k1 k2
    · rw [h1 _ (by omega) (by omega)]
      exact a2 k k1 k2
    · have e : pm_det (τ 81) (12 * g) = pm_det (σ 81) (12 * g) := pm_det_congr (fun k k1 k2 => h1 _ (by omega) (by omega))
      rw [e]
      exact a3
theorem pm_det_small {f : Int → Int} {a : Int} (h : ∀ k : Int, 0 ≤ k → k < 9 → -1 ≤ f (a + k) ∧ f (a + k) ≤ 1) : -6 ≤ pm_det f a ∧ pm_det f a ≤ 6 := by
  have h0 := h 0 (by omega) (by omega)
  rw [Int.add_zero] at h0
  have h1 := h 1 (by omega) (by omega)
  have h2 := h 2 (by omega) (by omega)
  have h3 := h 3 (by omega) (by omega)
  have h4 := h 4 (by omega) (by omega)
  have h5 := h 5 (by omega) (by omega)
  have h6 := h 6 (by omega) (by omega)
  have h7 := h 7 (by omega) (by omega)
  have h8 := h 8 (by omega) (by omega)
  have m1 := mul_ab (A := 1) (B := 1) h4 h8
  have m2 := mul_ab (A := 1) (B := 1) h5 h7
  have m3 := mul_ab (A := 1) (B := 1) h3 h8
  have m4 := mul_ab (A := 1) (B := 1) h5 h6
  have m5 := mul_ab (A := 1) (B := 1) h3 h7
  have m6 := mul_ab (A := 1) (B := 1) h4 h6
  have n1 := mul_ab (A := 1) (B := 2) (x := f a) (y := f (a + 4) * f (a + 8) - f (a + 5) * f (a + 7)) h0 (by omega)
  have n2 := mul_ab (A := 1) (B := 2) (x := f (a + 1)) (y := f (a + 3) * f (a + 8) - f (a + 5) * f (a + 6)) h1 (by omega)
  have n3 := mul_ab (A := 1) (B := 2) (x := f (a + 2)) (y := f (a + 3) * f (a + 7) - f (a + 4) * f (a + 6)) h2 (by omega)
  unfold pm_det
  omega
theorem pm_det_rg {τ : pm_H} {q : Nat} (h : pm_rg τ q 0 9 (-1) 1) : w32 (pm_det (τ q) 0) = pm_det (τ q) 0 := by
  have := pm_det_small (f := τ q) (a := 0) (fun k h1 h2 => by rw [Int.zero_add]; exact h k h1 h2)
  exact w32_id (by omega)
theorem pm_ia83 (k : Int) (h1 : 0 ≤ k) (h2 : k < 9) : pm_ia 83 (0 + k) := by
  rw [pr_83]
  omega
def pm_idf : Int → Int := fun k => if k % 4 = 0 then 1 else 0
theorem pm_idf_det : pm_det pm_idf 0 = 1 := by decide
theorem pm_er_det {τ : pm_H} {q : Nat} {f : Int → Int} (h : pm_er τ q 0 9 f) : pm_det (τ q) 0 = pm_det f 0 := pm_det_congr (fun k h1 h2 => by
  rw [Int.zero_add]
  exact h k h1 h2)
theorem pm_er_idf {τ : pm_H} {q : Nat} (h : pm_er τ q 0 9 pm_idf) : pm_rg τ q 0 9 (-1) 1 := by
  intro k h1 h2
  rw [h k h1 h2]
  unfold pm_idf
  split <;> omega
theorem pm_idf_1 {k : Int} (h : k % 4 = 0) : (1 : Int) = pm_idf k := by
  unfold pm_idf
  rw [if_pos h]
theorem pm_idf_0 {k : Int} (h : ¬ k % 4 = 0) : (0 : Int) = pm_idf k := by
  unfold pm_idf
  rw [if_neg h]
end GOK
