/-! the reference's reader of symbols: matrices along the axes -/
section SYM
def pm_s3 (a : Int) : Int := if a = 0 then 2 else if a = 1 then 1 else 0
def pm_ta (a : Int) (f : Int → Int) : Int → Int := fun k => f (3 * ((k / 3 + pm_s3 a) % 3) + (k % 3 + pm_s3 a) % 3)
theorem pm_ta_v {a i j s k v : Int} {f : Int → Int} (hs : pm_s3 a = s) (hk : k = 3 * i + j) (hj : 0 ≤ j ∧ j < 3) (hv : v = f (3 * ((i + s) % 3) + (j + s) % 3)) : v = pm_ta a f k := by
  unfold pm_ta
  rw [hs, hv]
  congr 1
  omega
theorem pm_s3_0 {a : Int} (h : a = 0) : pm_s3 a = 2 := by unfold pm_s3; rw [if_pos h]
theorem pm_s3_1 {a : Int} (h : a = 1) : pm_s3 a = 1 := by unfold pm_s3; rw [if_neg (by omega), if_pos h]
theorem pm_s3_2 {a : Int} (h : ¬ a = 0) (h2 : ¬ a = 1) : pm_s3 a = 0 := by unfold pm_s3; rw [if_neg h, if_neg h2]
theorem pm_s3_c (a : Int) : pm_s3 a = 2 ∨ pm_s3 a = 1 ∨ pm_s3 a = 0 := by
  unfold pm_s3
  split
  · exact Or.inl rfl
  · split
    · exact Or.inr (Or.inl rfl)
    · exact Or.inr (Or.inr rfl)
theorem pm_ta_det (a : Int) (f : Int → Int) : pm_det (pm_ta a f) 0 = pm_det f 0 := by
  unfold pm_det pm_ta
  rcases pm_s3_c a with h | h | h <;> rw [h] <;> simp only [Int.reduceAdd, Int.reduceDiv, Int.reduceMod, Int.reduceMul] <;> grind
theorem pm_ta_rg {a : Int} {σ τ : pm_H} (h : pm_rg σ 84 0 9 (-1) 1) (e : pm_er τ 83 0 9 (pm_ta a (σ 84))) : pm_rg τ 83 0 9 (-1) 1 := by
  intro k h1 h2
  rw [e k h1 h2]
  unfold pm_ta
  have := pm_s3_c a
  exact h _ (by omega) (by omega)
def pm_two (τ : pm_H) : Prop := pm_rg τ 84 0 9 (-1) 1 ∧ (pm_det (τ 84) 0 = 1 ∨ pm_det (τ 84) 0 = -1)
theorem pm_two_of {τ : pm_H} {a b c d e f g h i : Int} (h0 : τ 84 0 = a ∧ τ 84 1 = b ∧ τ 84 2 = c ∧ τ 84 3 = d ∧ τ 84 4 = e ∧ τ 84 5 = f ∧ τ 84 6 = g ∧ τ 84 7 = h ∧ τ 84 8 = i) (hr : (-1 ≤ a ∧ a ≤ 1) ∧ (-1 ≤ b ∧ b ≤ 1) ∧ (-1 ≤ c ∧ c ≤ 1) ∧ (-1 ≤ d ∧ d ≤ 1) ∧ (-1 ≤ e ∧ e ≤ 1) ∧ (-1 ≤ f ∧ f ≤ 1) ∧ (-1 ≤ g ∧ g ≤ 1) ∧ (-1 ≤ h ∧ h ≤ 1) ∧ (-1 ≤ i ∧ i ≤ 1)) (hd : a * (e * i - f * h) - b * (d * i - f * g) + c * (d * h - e * g) = 1 ∨ a * (e * i - f * h) - b * (d * i - f * g) + c * (d * h - e * g) = -1) : pm_two τ := by
  obtain ⟨rfl, rfl, rfl, rfl, rfl, rfl, rfl, rfl, rfl⟩ := h0
  refine ⟨fun k k1 k2 => ?_, ?_⟩
  · rcases (show k = 0 ∨ k = 1 ∨ k = 2 ∨ k = 3 ∨ k = 4 ∨ k = 5 ∨ k = 6 ∨ k = 7 ∨ k = 8 by omega) with rfl | rfl | rfl | rfl | rfl | rfl | rfl | rfl | rfl
    · exact hr.1
    · exact hr.2.1
    · exact hr.2.2.1
    · exact hr.2.2.2.1
    · exact hr.2.2.2.2.1
    · exact hr.2.2.2.2.2.1
    · exact hr.2.2.2.2.2.2.1
    · exact hr.2.2.2.2.2.2.2.1
    · exact hr.2.2.2.2.2.2.2.2
  · exact hd
theorem pm_two_eq {σ τ : pm_H} (h : pm_two σ) (e : τ 84 = σ 84) : pm_two τ := by
  unfold pm_two
  rw [e]
  exact ⟨pm_rg_eq h.1 e, h.2⟩
/-- the nine numbers turned round -/
theorem pm_det_neg {f g : Int → Int} (h : ∀ k : Int, 0 ≤ k → k < 9 → g k = -(f k)) : pm_det g 0 = -(pm_det f 0) := by
  unfold pm_det
  simp only [Int.zero_add]
  rw [h 0 (by omega) (by omega), h 1 (by omega) (by omega), h 2 (by omega) (by omega), h 3 (by omega) (by omega), h 4 (by omega) (by omega), h 5 (by omega) (by omega), h 6 (by omega) (by omega), h 7 (by omega) (by omega), h 8 (by omega) (by omega)]
  grind
/-- the matrix in 'one' is fit for a generator -/
def pm_one (τ : pm_H) : Prop := pm_rg τ 83 0 9 (-1) 1 ∧ (pm_det (τ 83) 0 = 1 ∨ pm_det (τ 83) 0 = -1)
theorem pm_one_ta {a : Int} {σ τ : pm_H} (h : pm_two σ) (e : pm_er τ 83 0 9 (pm_ta a (σ 84))) : pm_one τ := by
  refine ⟨pm_ta_rg h.1 e, ?_⟩
  rw [pm_er_det e, pm_ta_det]
  exact h.2
theorem pm_one_er {σ τ : pm_H} (h : pm_one σ) (e : pm_er τ 83 0 9 (σ 83)) : pm_one τ := by
  refine ⟨fun k k1 k2 => ?_, ?_⟩
  · rw [e k k1 k2]
    exact h.1 k k1 k2
  · rw [pm_er_det e]
    exact h.2
theorem pm_one_neg {σ τ : pm_H} (h : pm_one σ) (e : pm_er τ 83 0 9 (fun k => -(σ 83 k))) : pm_one τ := by
  refine ⟨fun k k1 k2 => ?_, ?_⟩
  · rw [e k k1 k2]
    have := h.1 k k1 k2
    dsimp only
    omega
  · rw [pm_det_neg (f := σ 83) (fun k k1 k2 => e k k1 k2)]
    have := h.2
    omega
theorem pm_one_id {τ : pm_H} (e : pm_er τ 83 0 9 pm_idf) : pm_one τ := ⟨pm_er_idf e, Or.inl (by rw [pm_er_det e, pm_idf_det])⟩
theorem pm_one_mid {τ : pm_H} (e : pm_er τ 83 0 9 (fun k => -(pm_idf k))) : pm_one τ := by
  refine ⟨fun k k1 k2 => ?_, ?_⟩
  · rw [e k k1 k2]
    unfold pm_idf
    dsimp only
    split <;> omega
  · rw [pm_det_neg (f := pm_idf) (fun k k1 k2 => e k k1 k2), pm_idf_det]
    exact Or.inr rfl
theorem pm_one_eq {σ τ : pm_H} (h : pm_one σ) (e : τ 83 = σ 83) : pm_one τ := by
  unfold pm_one
  rw [e]
  exact ⟨pm_rg_eq h.1 e, h.2⟩
/-- a generator more, out of 'one' -/
theorem pm_gok_one {σ τ : pm_H} {n n' : Int} (h : pm_gok σ n) (hn : 0 ≤ n) (hn' : n' = n + 1) (h1 : pm_er τ 81 0 (12 * n) (σ 81)) (h2 : pm_er τ 81 (12 * n) (12 * n + 9) (fun k => σ 83 (k - 12 * n))) (h3 : pm_rg τ 81 (12 * n + 9) (12 * n + 12) 0 23) (h4 : pm_one σ) : pm_gok τ n' := pm_gok_push h hn hn' h1 h2 h3 h4.1 h4.2
end SYM
