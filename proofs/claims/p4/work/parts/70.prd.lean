/-! products, inverses and rows of one slot in another -/
section PRD
theorem pm_Gr_eq {σ τ : pm_H} {s n m : Int} (h : pm_Gr (pm_rk σ s) n) (e : τ 86 = σ 86) (hm : m = n) : pm_Gr (pm_rk τ s) m := by
  subst hm
  unfold pm_rk
  rw [e]
  exact h
theorem pm_SL_at {σ τ : pm_H} {s m : Int} (h : pm_SL σ) (h1 : 0 ≤ s ∧ s ≤ 5) (h2 : ¬ σ 88 s = 0) (e : τ 86 = σ 86) (hm : m = σ 87 s) : pm_Gr (pm_rk τ s) m := pm_Gr_eq (h s h1.1 (by omega) h2) e hm
theorem pm_prod {σ τ : pm_H} {s r i j : Int} (G : pm_Gr (pm_rk σ s) (σ 87 s)) (e : τ 86 = σ 86) (e2 : τ 87 = σ 87) (hi : 0 ≤ i ∧ i < σ 87 s) (hj : 0 ≤ j ∧ j < σ 87 s) (hq : pm_er τ 85 0 12 (pm_af (σ 86) (4608 * s + 12 * i) (σ 86) (4608 * s + 12 * j))) (hr : -1 ≤ r ∧ r < τ 87 s) (p1 : 0 ≤ r → pm_o (pm_rk τ s r) 0 = pm_o (τ 85) 0) (p2 : r < 0 → ∀ k : Int, 0 ≤ k → k < τ 87 s → pm_o (pm_rk τ s k) 0 ≠ pm_o (τ 85) 0) : (0 ≤ r ∧ r < σ 87 s) ∧ pm_o (pm_rk σ s r) 0 = pm_mul (pm_o (pm_rk σ s i) 0) (pm_o (pm_rk σ s j) 0) := by
  have er : pm_rk τ s = pm_rk σ s := by
    unfold pm_rk
    rw [e]
  rw [e2] at hr p2
  rw [er] at p1 p2
  have hp : pm_o (τ 85) 0 = pm_mul (pm_o (pm_rk σ s i) 0) (pm_o (pm_rk σ s j) 0) := by
    rw [pm_rk_o, pm_rk_o]
    exact pm_af_o (pm_rk_sz G hi.1 hi.2) (pm_rk_sz G hj.1 hj.2) hq
  have h0 : 0 ≤ r := by
    by_cases h : r < 0
    · exact absurd (pm_Gr_at G hi hj hp (p2 h)) (fun z => z)
    · omega
  exact ⟨⟨h0, hr.2⟩, by rw [← hp]; exact p1 h0⟩
/-- what numberOf says is the row that 'got' is -/
theorem pm_numb {σ τ : pm_H} {s r : Int} {x : pm_O} (e : τ 86 = σ 86) (e2 : τ 87 = σ 87) (hx : pm_o (τ 85) 0 = x) (hex : ∃ k : Int, 0 ≤ k ∧ k < σ 87 s ∧ pm_o (pm_rk σ s k) 0 = x) (hr : -1 ≤ r ∧ r < τ 87 s) (p1 : 0 ≤ r → pm_o (pm_rk τ s r) 0 = pm_o (τ 85) 0) (p2 : r < 0 → ∀ k : Int, 0 ≤ k → k < τ 87 s → pm_o (pm_rk τ s k) 0 ≠ pm_o (τ 85) 0) : (0 ≤ r ∧ r < σ 87 s) ∧ pm_o (pm_rk σ s r) 0 = x := by
  have er : pm_rk τ s = pm_rk σ s := by
    unfold pm_rk
    rw [e]
  rw [e2] at hr p2
  rw [er] at p1 p2
  rw [hx] at p1 p2
  obtain ⟨k, k1, k2, k3⟩ := hex
  have h0 : 0 ≤ r := by
    by_cases h : r < 0
    · exact absurd k3 (p2 h k k1 k2)
    · omega
  exact ⟨⟨h0, hr.2⟩, p1 h0⟩
theorem pm_id12_o85 {τ : pm_H} {n : Int} (h : pm_er τ 85 0 n pm_id12) (hn : 12 ≤ n) : pm_o (τ 85) 0 = pm_e := by
  have : pm_o (τ 85) 0 = pm_o pm_id12 0 := pm_o_congr (fun k k1 k2 => h _ (by omega) (by omega))
  rw [this]
  exact pm_O.ext (by decide) (by decide) (by decide) (by decide) (by decide) (by decide) (by decide) (by decide) (by decide) (by decide) (by decide) (by decide)
/-- an inverse lies at k or behind -/
def pm_ik (σ : pm_H) (s i k : Int) : Prop := ∃ l : Int, k ≤ l ∧ l < σ 87 s ∧ pm_mul (pm_o (pm_rk σ s i) 0) (pm_o (pm_rk σ s l) 0) = pm_e
theorem pm_ik_0 {σ : pm_H} {s i : Int} (G : pm_Gr (pm_rk σ s) (σ 87 s)) (h : 0 ≤ i ∧ i < σ 87 s) : pm_ik σ s i 0 := pm_Gr_inv G h.1 h.2
theorem pm_ik_l {σ : pm_H} {s i k : Int} (h : pm_ik σ s i k) : k < σ 87 s := by
  obtain ⟨l, l1, l2, l3⟩ := h
  omega
theorem pm_ik_s {σ : pm_H} {s i k k' r d : Int} (G : pm_Gr (pm_rk σ s) (σ 87 s)) (h : pm_ik σ s i k) (hr : 0 ≤ r ∧ r < σ 87 s) (hd : 0 ≤ d ∧ d < σ 87 s) (e : pm_o (pm_rk σ s d) 0 = pm_e) (ep : pm_o (pm_rk σ s r) 0 = pm_mul (pm_o (pm_rk σ s i) 0) (pm_o (pm_rk σ s k) 0)) (hn : ¬ r = d) (hk : k' = k + 1) : pm_ik σ s i k' := by
  subst hk
  obtain ⟨l, l1, l2, l3⟩ := h
  refine ⟨l, ?_, l2, l3⟩
  by_cases e1 : l = k
  · subst e1
    exact absurd (pm_Gr_inj G hr.1 hr.2 hd.1 hd.2 (by rw [ep, l3, e])) hn
  · omega
/-- all rows of slot b are rows of slot a, as far as n -/
def pv_al (σ : pm_H) (a b n : Int) : Prop := ∀ i : Int, 0 ≤ i → i < n → ∃ k : Int, 0 ≤ k ∧ k < σ 87 a ∧ pm_o (pm_rk σ a k) 0 = pm_o (pm_rk σ b i) 0
theorem pv_al_0 {σ : pm_H} {a b n : Int} (h : n ≤ 0) : pv_al σ a b n := fun i _ _ => by omega
theorem pv_al_s {σ : pm_H} {a b n n' r : Int} (h : pv_al σ a b n) (hr : 0 ≤ r ∧ r < σ 87 a) (e : pm_o (pm_rk σ a r) 0 = pm_o (pm_rk σ b n) 0) (hn : n' = n + 1) : pv_al σ a b n' := by
  subst hn
  intro i i1 i2
  by_cases hi : i = n
  · rw [hi]
    exact ⟨r, hr.1, hr.2, e⟩
  · exact h i i1 (by omega)
theorem pv_al_eq {σ τ : pm_H} {a b n m : Int} (h : pv_al σ a b n) (e : τ 86 = σ 86) (e2 : τ 87 = σ 87) (hm : m = n) : pv_al τ a b m := by
  subst hm
  unfold pv_al pm_rk
  rw [e, e2]
  exact h
end PRD
