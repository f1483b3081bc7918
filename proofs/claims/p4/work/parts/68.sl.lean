/-! slots: a group put, groups kept, operators looked for -/
section SL
theorem pm_Gr_cg {X Y : Int → Int → Int} {n : Int} (h : pm_Gr X n) (e : ∀ k j : Int, 0 ≤ k → k < n → 0 ≤ j → j < 12 → Y k j = X k j) : pm_Gr Y n := by
  have ro : ∀ k : Int, 0 ≤ k → k < n → pm_o (Y k) 0 = pm_o (X k) 0 := fun k k1 k2 => pm_o_congr (fun j j1 j2 => by rw [Int.zero_add]; exact e k j k1 k2 j1 j2)
  refine fun _ => ⟨h.n1, h.n2, fun k k1 k2 => by rw [ro k k1 k2]; exact h.md k k1 k2, fun i j i1 i2 i3 => pm_lt_cg (h.lt i j i1 i2 i3) (fun l => e i l i1 (by omega)) (fun l => e j l (by omega) i3), ?_, fun i j i1 i2 j1 j2 => ?_⟩
  · obtain ⟨i, i1, i2, i3⟩ := h.ee
    exact ⟨i, i1, i2, by rw [ro i i1 i2]; exact i3⟩
  · obtain ⟨k, k1, k2, k3⟩ := h.cl i j i1 i2 j1 j2
    exact ⟨k, k1, k2, by rw [ro k k1 k2, ro i i1 i2, ro j j1 j2]; exact k3⟩
theorem pm_SL_kp {σ τ : pm_H} {s m : Int} (h : pm_SL σ) (g : pm_Gr (pm_rk τ s) m) (e1 : ∀ q : Int, q < 4608 * s ∨ 4608 * s + 4608 ≤ q → τ 86 q = σ 86 q) (e2 : τ 87 s = m) (e3 : ∀ t : Int, t ≠ s → τ 87 t = σ 87 t) (e4 : ∀ t : Int, t ≠ s → τ 88 t = σ 88 t) : pm_SL τ := by
  intro t t1 t2 t3
  by_cases hs : t = s
  · rw [hs, e2]
    exact g
  · rw [e4 t hs] at t3
    rw [e3 t hs]
    have G := h t t1 t2 t3
    have n2 := G.n2
    exact pm_Gr_cg G (fun k j k1 k2 j1 j2 => e1 _ (by omega))
def pm_lo (σ : pm_H) (s n : Int) : Prop := ∀ k : Int, 0 ≤ k → k < n → pm_lt (pm_rk σ s k) (σ 85)
def pm_hi (σ : pm_H) (s a n : Int) : Prop := ∀ k : Int, a < k → k < n → pm_lt (σ 85) (pm_rk σ s k)
def pm_sk (σ : pm_H) (s k n : Int) : Prop := ∀ j : Int, 0 ≤ j → j < n → pm_rk σ s k j = σ 85 j
theorem pm_lo_0 {σ : pm_H} {s n : Int} (h : n ≤ 0) : pm_lo σ s n := fun k _ _ => by omega
theorem pm_hi_0 {σ : pm_H} {s a n : Int} (h : n ≤ a + 1) : pm_hi σ s a n := fun k _ _ => by omega
theorem pm_sk_0 {σ : pm_H} {s k n : Int} (h : n ≤ 0) : pm_sk σ s k n := fun j _ _ => by omega
theorem pm_sk_s {σ : pm_H} {s k n n' : Int} (h : pm_sk σ s k n) (e : σ 86 (4608 * s + 12 * k + n) = σ 85 n) (hn : n' = n + 1) : pm_sk σ s k n' := by
  subst hn
  intro j h1 h2
  by_cases hj : j = n
  · rw [hj]
    exact e
  · exact h j h1 (by omega)
theorem pm_lo_s {σ : pm_H} {s n k i k' : Int} (G : pm_Gr (pm_rk σ s) n) (hk : 0 ≤ k ∧ k < n) (h : pm_sk σ s k i) (hi : 0 ≤ i ∧ i < 12) (e : σ 86 (4608 * s + 12 * k + i) < σ 85 i) (hk' : k' = k + 1) : pm_lo σ s k' := by
  subst hk'
  have a : pm_lt (pm_rk σ s k) (σ 85) := ⟨i, hi.1, hi.2, h, e⟩
  intro j h1 h2
  by_cases hj : j = k
  · rw [hj]
    exact a
  · exact pm_lt_tr (G.lt j k h1 (by omega) hk.2) a
theorem pm_hi_s {σ : pm_H} {s n k i k' : Int} (G : pm_Gr (pm_rk σ s) n) (hk : 0 ≤ k ∧ k < n) (h : pm_sk σ s k i) (hi : 0 ≤ i ∧ i < 12) (e : σ 85 i < σ 86 (4608 * s + 12 * k + i)) (hk' : k' = k - 1) : pm_hi σ s k' n := by
  subst hk'
  have a : pm_lt (σ 85) (pm_rk σ s k) := ⟨i, hi.1, hi.2, fun j j1 j2 => (h j j1 j2).symm, e⟩
  intro j h1 h2
  by_cases hj : j = k
  · rw [hj]
    exact a
  · exact pm_lt_tr a (G.lt k j hk.1 (by omega) h2)
theorem pm_sk_o {σ : pm_H} {s k n : Int} (h : pm_sk σ s k n) (hn : 12 ≤ n) : pm_o (pm_rk σ s k) 0 = pm_o (σ 85) 0 := pm_o_congr (fun j j1 j2 => by rw [Int.zero_add]; exact h j j1 (by omega))
theorem pm_no_k {σ : pm_H} {s a b n : Int} (h1 : pm_lo σ s a) (h2 : pm_hi σ s b n) (hab : b < a) (k : Int) (k1 : 0 ≤ k) (k2 : k < n) : pm_o (pm_rk σ s k) 0 ≠ pm_o (σ 85) 0 := by
  intro e
  have e' : ∀ j : Int, 0 ≤ j → j < 12 → pm_rk σ s k j = σ 85 j := fun j j1 j2 => by
    have := pm_o_at e j j1 j2
    rw [Int.zero_add] at this
    exact this
  by_cases hk : k < a
  · exact pm_lt_irr (h1 k k1 hk) e'
  · exact pm_lt_irr (h2 k (by omega) k2) (fun j j1 j2 => (e' j j1 j2).symm)
/-- the number of a product of two rows is found -/
theorem pm_Gr_at {X : Int → Int → Int} {n i j : Int} (G : pm_Gr X n) (hi : 0 ≤ i ∧ i < n) (hj : 0 ≤ j ∧ j < n) {x : pm_O} (hx : x = pm_mul (pm_o (X i) 0) (pm_o (X j) 0)) (h : ∀ k : Int, 0 ≤ k → k < n → pm_o (X k) 0 ≠ x) : False := by
  obtain ⟨k, k1, k2, k3⟩ := G.cl i j hi.1 hi.2 hj.1 hj.2
  exact h k k1 k2 (by rw [hx]; exact k3)
theorem pm_rk_o (τ : pm_H) (s k : Int) : pm_o (pm_rk τ s k) 0 = pm_o (τ 86) (4608 * s + 12 * k) := pm_o_congr (fun j _ _ => by
  unfold pm_rk
  rw [Int.zero_add])
theorem pm_rk_sz {τ : pm_H} {s n k : Int} (G : pm_Gr (pm_rk τ s) n) (h1 : 0 ≤ k) (h2 : k < n) : pm_sz (τ 86) (4608 * s + 12 * k) := pm_sz_md (by
  rw [← pm_rk_o]
  exact G.md k h1 h2)
end SL
