/-! what the public methods of the reference need -/
section PUB
theorem pm_SL_up {σ : pm_H} {q : Nat} {i v : Int} (h : pm_SL σ) (h1 : 86 ≠ q) (h2 : 87 ≠ q) (h3 : 88 ≠ q) : pm_SL (pm_up σ q i v) := pm_SL_eq h (pu_ne h1) (pu_ne h2) (pu_ne h3)
theorem pm_Gr_or {σ τ : pm_H} {s m r : Int} (h : r = 0 ∨ pm_Gr (pm_rk σ s) (σ 87 s)) (hr : ¬ r = 0) (e : τ 86 = σ 86) (e2 : τ 87 = σ 87) (hm : m = τ 87 s) : pm_Gr (pm_rk τ s) m := by
  rcases h with h | h
  · exact absurd h hr
  · exact pm_Gr_eq h e (by rw [hm, e2])
theorem pm_Gr_SL {σ : pm_H} {s : Int} (h : pm_SL σ) (h1 : 0 ≤ s ∧ s ≤ 5) (h2 : ¬ σ 88 s = 0) : (1 ≤ σ 87 s ∧ σ 87 s ≤ 384) ∧ pm_Gr (pm_rk σ s) (σ 87 s) := by
  have G := h s h1.1 (by omega) h2
  exact ⟨⟨G.n1, G.n2⟩, G⟩
/-- slot b is a part of slot a -/
def pv_sub (σ : pm_H) (a b : Int) : Prop := True → (0 ≤ a ∧ a ≤ 5) ∧ (0 ≤ b ∧ b ≤ 5) ∧ pm_Gr (pm_rk σ a) (σ 87 a) ∧ pm_Gr (pm_rk σ b) (σ 87 b) ∧ pv_al σ a b (σ 87 b)
theorem pv_sub_n {σ : pm_H} {a b : Int} (h : pv_sub σ a b) : (0 ≤ a ∧ a ≤ 5) ∧ (0 ≤ b ∧ b ≤ 5) ∧ (1 ≤ σ 87 a ∧ σ 87 a ≤ 384) ∧ (1 ≤ σ 87 b ∧ σ 87 b ≤ 384) := ⟨(h trivial).1, (h trivial).2.1, ⟨(h trivial).2.2.1.n1, (h trivial).2.2.1.n2⟩, ⟨(h trivial).2.2.2.1.n1, (h trivial).2.2.2.1.n2⟩⟩
theorem pv_sub_eq {σ τ : pm_H} {a b : Int} (h : pv_sub σ a b) (e : τ 86 = σ 86) (e2 : τ 87 = σ 87) : pv_sub τ a b := by
  unfold pv_sub pv_al pm_rk
  rw [e, e2]
  exact h
/-- a product of rows of both, in either order, is a row of a -/
theorem pv_sub_p {σ : pm_H} {a b i j : Int} (h : pv_sub σ a b) (hi : 0 ≤ i ∧ i < σ 87 a) (hj : 0 ≤ j ∧ j < σ 87 b) : (∃ k : Int, 0 ≤ k ∧ k < σ 87 a ∧ pm_o (pm_rk σ a k) 0 = pm_mul (pm_o (pm_rk σ a i) 0) (pm_o (pm_rk σ b j) 0)) ∧ (∃ k : Int, 0 ≤ k ∧ k < σ 87 a ∧ pm_o (pm_rk σ a k) 0 = pm_mul (pm_o (pm_rk σ b j) 0) (pm_o (pm_rk σ a i) 0)) := by
  obtain ⟨-, -, G, -, al⟩ := h trivial
  obtain ⟨l, l1, l2, l3⟩ := al j hj.1 hj.2
  rw [← l3]
  exact ⟨G.cl i l hi.1 hi.2 l1 l2, G.cl l i l1 l2 hi.1 hi.2⟩
theorem pv_mix {σ τ : pm_H} {a b i j r : Int} (h : pv_sub σ a b) (hi : 0 ≤ i ∧ i < σ 87 a) (hj : 0 ≤ j ∧ j < σ 87 b) (e : τ 86 = σ 86) (e2 : τ 87 = σ 87) (hq : pm_er τ 85 0 12 (pm_af (σ 86) (4608 * a + 12 * i) (σ 86) (4608 * b + 12 * j)) ∨ pm_er τ 85 0 12 (pm_af (σ 86) (4608 * b + 12 * j) (σ 86) (4608 * a + 12 * i))) (hr : -1 ≤ r ∧ r < τ 87 a) (p1 : 0 ≤ r → pm_o (pm_rk τ a r) 0 = pm_o (τ 85) 0) (p2 : r < 0 → ∀ k : Int, 0 ≤ k → k < τ 87 a → pm_o (pm_rk τ a k) 0 ≠ pm_o (τ 85) 0) : 0 ≤ r ∧ r < σ 87 a := by
  have S := h trivial
  rcases hq with hq | hq
  · exact (pm_numb e e2 (x := pm_mul (pm_o (pm_rk σ a i) 0) (pm_o (pm_rk σ b j) 0)) (by rw [pm_rk_o, pm_rk_o]; exact pm_af_o (pm_rk_sz S.2.2.1 hi.1 hi.2) (pm_rk_sz S.2.2.2.1 hj.1 hj.2) hq) (pv_sub_p h hi hj).1 hr p1 p2).1
  · exact (pm_numb e e2 (x := pm_mul (pm_o (pm_rk σ b j) 0) (pm_o (pm_rk σ a i) 0)) (by rw [pm_rk_o, pm_rk_o]; exact pm_af_o (pm_rk_sz S.2.2.2.1 hj.1 hj.2) (pm_rk_sz S.2.2.1 hi.1 hi.2) hq) (pv_sub_p h hi hj).2 hr p1 p2).1
end PUB
