/-! what two slots have in common, row by row -/
section CMN
def pv_cm (σ τ : pm_H) (a b i m : Int) : Prop := True → (∀ k : Int, 0 ≤ k → k < m → ∃ l : Int, 0 ≤ l ∧ l < i ∧ (∀ j : Int, 0 ≤ j → j < 12 → pm_rw τ k j = pm_rk σ a l j) ∧ ∃ p : Int, 0 ≤ p ∧ p < σ 87 b ∧ pm_o (pm_rk σ b p) 0 = pm_o (pm_rk σ a l) 0) ∧ (∀ l p : Int, 0 ≤ l → l < i → 0 ≤ p → p < σ 87 b → pm_o (pm_rk σ b p) 0 = pm_o (pm_rk σ a l) 0 → ∃ k : Int, 0 ≤ k ∧ k < m ∧ pm_o (τ 82) (12 * k) = pm_o (pm_rk σ a l) 0) ∧ pm_so τ m
theorem pv_cm_0 {σ τ : pm_H} {a b i m : Int} (hi : i = 0) (hm : m = 0) : pv_cm σ τ a b i m := by
  subst hi hm
  intro _
  exact ⟨fun k _ _ => by omega, fun l p _ _ => by omega, fun i j _ _ _ => by omega⟩
/-- a row that b lacks -/
theorem pv_cm_n {σ τ ρ : pm_H} {a b i i' m m' : Int} (h : pv_cm σ τ a b i m) (hn : ∀ k : Int, 0 ≤ k → k < σ 87 b → pm_o (pm_rk σ b k) 0 ≠ pm_o (pm_rk σ a i) 0) (hi : i' = i + 1) (hm : m' = m) (e : ρ 82 = τ 82) : pv_cm σ ρ a b i' m' := by
  subst hi hm
  intro _
  obtain ⟨h1, h2, h3⟩ := h trivial
  refine ⟨fun k k1 k2 => ?_, fun l p l1 l2 p1 p2 q => ?_, ?_⟩
  · obtain ⟨l, l1, l2, l3, l4⟩ := h1 k k1 k2
    exact ⟨l, l1, by omega, by unfold pm_rw; rw [e]; exact l3, l4⟩
  · by_cases hl : l = i
    · subst hl
      exact absurd q (hn p p1 p2)
    · rw [e]
      exact h2 l p l1 (by omega) p1 p2 q
  · unfold pm_so pm_rw
    rw [e]
    exact h3
/-- a row that b has, put behind -/
theorem pv_cm_p {σ τ ρ : pm_H} {a b i i' m m' r : Int} (h : pv_cm σ τ a b i m) (G : pm_Gr (pm_rk σ a) (σ 87 a)) (hin : 0 ≤ i ∧ i < σ 87 a) (hr : 0 ≤ r ∧ r < σ 87 b) (hb : pm_o (pm_rk σ b r) 0 = pm_o (pm_rk σ a i) 0) (hg : pm_o (τ 85) 0 = pm_o (pm_rk σ a i) 0) (p1 : pm_er ρ 82 0 (12 * m) (τ 82)) (p2 : pm_er ρ 82 (12 * m) (12 * m + 12) (fun j => τ 85 (j - 12 * m))) (hm0 : 0 ≤ m) (hi : i' = i + 1) (hm : m' = m + 1) : pv_cm σ ρ a b i' m' := by
  subst hi hm
  intro _
  obtain ⟨h1, h2, h3⟩ := h trivial
  have r1 : ∀ k : Int, 0 ≤ k → k < m → ∀ j : Int, 0 ≤ j → j < 12 → pm_rw ρ k j = pm_rw τ k j := fun k k1 k2 j j1 j2 => p1 _ (by omega) (by omega)
  have r2 : ∀ j : Int, 0 ≤ j → j < 12 → pm_rw ρ m j = pm_rk σ a i j := fun j j1 j2 => by
    have q := pm_o_at hg j j1 j2
    rw [Int.zero_add] at q
    unfold pm_rw
    rw [p2 _ (by omega) (by omega), ← q]
    show τ 85 (12 * m + j - 12 * m) = τ 85 j
    congr 1
    omega
  refine ⟨fun k k1 k2 => ?_, fun l p l1 l2 q1 q2 q => ?_, fun x y x1 x2 x3 => ?_⟩
  · by_cases hk : k = m
    · subst hk
      exact ⟨i, hin.1, by omega, r2, r, hr.1, hr.2, hb⟩
    · obtain ⟨l, l1, l2, l3, l4⟩ := h1 k k1 (by omega)
      exact ⟨l, l1, by omega, fun j j1 j2 => by rw [r1 k k1 (by omega) j j1 j2]; exact l3 j j1 j2, l4⟩
  · by_cases hl : l = i
    · subst hl
      refine ⟨m, hm0, by omega, ?_⟩
      rw [← pm_rw_o]
      exact pm_o_congr (fun j j1 j2 => by rw [Int.zero_add]; exact r2 j j1 j2)
    · obtain ⟨k, k1, k2, k3⟩ := h2 l p l1 (by omega) q1 q2 q
      refine ⟨k, k1, by omega, ?_⟩
      rw [← k3, ← pm_rw_o, ← pm_rw_o]
      exact pm_o_congr (fun j j1 j2 => by rw [Int.zero_add]; exact r1 k k1 k2 j j1 j2)
  · by_cases hy : y = m
    · subst hy
      obtain ⟨l, l1, l2, l3, l4⟩ := h1 x x1 (by omega)
      exact pm_lt_cg (G.lt l i l1 l2 hin.2) (fun j j1 j2 => by rw [r1 x x1 (by omega) j j1 j2]; exact l3 j j1 j2) r2
    · exact pm_lt_cg (h3 x y x1 x2 (by omega)) (r1 x x1 (by omega)) (r1 y (by omega) (by omega))
theorem pm_so_ne {τ : pm_H} {m : Int} (h : pm_so τ m) (i j : Int) (h1 : 0 ≤ i) (h2 : i < j) (h3 : j < m) : pm_o (τ 82) (12 * i) ≠ pm_o (τ 82) (12 * j) := fun e => pm_lt_irr (h i j h1 h2 h3) (fun k k1 k2 => pm_o_at e k k1 k2)
theorem pv_cm_e {σ τ : pm_H} {a b i m : Int} (h : pv_cm σ τ a b i m) (A : pm_Gr (pm_rk σ a) (σ 87 a)) (B : pm_Gr (pm_rk σ b) (σ 87 b)) (hi : i = σ 87 a) : pm_Sg τ m ∧ pm_so τ m ∧ 1 ≤ m := by
  subst hi
  obtain ⟨h1, h2, h3⟩ := h trivial
  have ro : ∀ k : Int, 0 ≤ k → k < m → ∃ l : Int, 0 ≤ l ∧ l < σ 87 a ∧ pm_o (τ 82) (12 * k) = pm_o (pm_rk σ a l) 0 ∧ ∃ p : Int, 0 ≤ p ∧ p < σ 87 b ∧ pm_o (pm_rk σ b p) 0 = pm_o (pm_rk σ a l) 0 := fun k k1 k2 => by
    obtain ⟨l, l1, l2, l3, l4⟩ := h1 k k1 k2
    refine ⟨l, l1, l2, ?_, l4⟩
    rw [← pm_rw_o]
    exact pm_o_congr (fun j j1 j2 => by rw [Int.zero_add]; exact l3 j j1 j2)
  have he : ∃ k : Int, 0 ≤ k ∧ k < m ∧ pm_o (τ 82) (12 * k) = pm_e := by
    obtain ⟨l, l1, l2, l3⟩ := A.ee
    obtain ⟨p, p1, p2, p3⟩ := B.ee
    obtain ⟨k, k1, k2, k3⟩ := h2 l p l1 l2 p1 p2 (by rw [l3, p3])
    exact ⟨k, k1, k2, by rw [k3]; exact l3⟩
  refine ⟨⟨fun k k1 k2 => ?_, he, pm_so_ne h3, fun x y x1 x2 y1 y2 => ?_⟩, h3, ?_⟩
  · obtain ⟨l, l1, l2, l3, -⟩ := ro k k1 k2
    rw [l3]
    exact A.md l l1 l2
  · obtain ⟨l, l1, l2, l3, p, p1, p2, p3⟩ := ro x x1 x2
    obtain ⟨l', m1, m2, m3, p', q1, q2, q3⟩ := ro y y1 y2
    obtain ⟨c, c1, c2, c3⟩ := A.cl l l' l1 l2 m1 m2
    obtain ⟨d, d1, d2, d3⟩ := B.cl p p' p1 p2 q1 q2
    obtain ⟨k, k1, k2, k3⟩ := h2 c d c1 c2 d1 d2 (by rw [c3, d3, p3, q3])
    exact ⟨k, k1, k2, by rw [k3, c3, l3, m3]⟩
  · obtain ⟨k, k1, k2, -⟩ := he
    omega
end CMN
