/-! the product of two operators, as the reference reckons it -/
section AF
def pm_af (A : Int → Int) (i : Int) (B : Int → Int) (j k : Int) : Int := if k < 9 then w32 (A (i + 3 * (k / 3)) * B (j + k % 3) + A (i + 3 * (k / 3) + 1) * B (j + 3 + k % 3) + A (i + 3 * (k / 3) + 2) * B (j + 6 + k % 3)) else w32 (A (i + 3 * (k - 9)) * B (j + 9) + A (i + 3 * (k - 9) + 1) * B (j + 10) + A (i + 3 * (k - 9) + 2) * B (j + 11) + A (i + 9 + (k - 9))) % 24
theorem pm_af_m {A B : Int → Int} {i j r c : Int} (hr : 0 ≤ r ∧ r < 3) (hc : 0 ≤ c ∧ c < 3) : pm_af A i B j (3 * r + c) = w32 (A (i + 3 * r) * B (j + c) + A (i + 3 * r + 1) * B (j + 3 + c) + A (i + 3 * r + 2) * B (j + 6 + c)) := by
  unfold pm_af
  rw [if_pos (by omega), show (3 * r + c) / 3 = r by omega, show (3 * r + c) % 3 = c by omega]
theorem pm_af_t {A B : Int → Int} {i j r : Int} (hr : 0 ≤ r ∧ r < 3) : pm_af A i B j (9 + r) = w32 (A (i + 3 * r) * B (j + 9) + A (i + 3 * r + 1) * B (j + 10) + A (i + 3 * r + 2) * B (j + 11) + A (i + 9 + r)) % 24 := by
  unfold pm_af
  rw [if_neg (by omega), show 9 + r - 9 = r by omega]
theorem pm_ia_o12 {q : Nat} {b e : Int} (h : ∀ k : Int, 0 ≤ k → k < 12 → pm_ia q (b + k)) (h1 : b ≤ e ∧ e < b + 12) : pm_ia q e := by
  have := h (e - b) (by omega) (by omega)
  rw [show b + (e - b) = e by omega] at this
  exact this
def pm_sm (σ : pm_H) (k w : Int) : Prop := ∀ i : Int, 0 ≤ i → i < w → σ 82 (12 * k + i) = σ 85 i
theorem pm_sm_0 {σ : pm_H} {k w : Int} (h : w ≤ 0) : pm_sm σ k w := fun i _ _ => by omega
theorem pm_sm_s {σ : pm_H} {k w w' : Int} (h : pm_sm σ k w) (e : σ 82 (12 * k + w) = σ 85 w) (hw : w' = w + 1) : pm_sm σ k w' := by
  subst hw
  intro i h1 h2
  by_cases hi : i = w
  · subst hi
    exact e
  · exact h i h1 (by omega)
theorem pm_sm_n {σ : pm_H} {k w x : Int} (e : ¬ σ 82 (12 * k + w) = σ 85 w) (h1 : 0 ≤ w) (h2 : w < x) : ¬ pm_sm σ k x := fun h => e (h w h1 h2)
theorem pm_sm_e {σ : pm_H} {k w x : Int} (h : pm_sm σ k w) (hx : x = w) : pm_sm σ k x := by
  subst hx
  exact h
def pm_ns (σ : pm_H) (n w : Int) : Prop := ∀ k : Int, 0 ≤ k → k < n → ¬ pm_sm σ k w
theorem pm_ns_0 {σ : pm_H} {n w : Int} (h : n ≤ 0) : pm_ns σ n w := fun k _ _ => by omega
theorem pm_ns_s {σ : pm_H} {n n' w : Int} (h : pm_ns σ n w) (e : ¬ pm_sm σ n w) (hn : n' = n + 1) : pm_ns σ n' w := by
  subst hn
  intro k h1 h2
  by_cases hk : k = n
  · subst hk
    exact e
  · exact h k h1 (by omega)
theorem pm_ns_e {σ : pm_H} {n n' w : Int} (h : pm_ns σ n w) (hn : n' ≤ n) : pm_ns σ n' w := fun k h1 h2 => h k h1 (by omega)
def pm_id12 : Int → Int := fun k => if k < 9 ∧ k % 4 = 0 then 1 else 0
theorem pm_id12_1 {k : Int} (h : k < 9) (h2 : k % 4 = 0) : (1 : Int) = pm_id12 k := by
  unfold pm_id12
  rw [if_pos ⟨h, h2⟩]
theorem pm_id12_0 {k : Int} (h : ¬ k < 9 ∨ ¬ k % 4 = 0) : (0 : Int) = pm_id12 k := by
  unfold pm_id12
  rw [if_neg (fun z => by omega)]
end AF
