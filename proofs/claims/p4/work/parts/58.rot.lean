/-! 'one' turned round, number by number; generators moved -/
section ROT
def pm_half (τ : pm_H) (m k : Int) : Prop := ∃ ρ : pm_H, pm_one ρ ∧ (∀ j : Int, k ≤ j → j < 9 → τ 83 j = ρ 83 j) ∧ ∀ j : Int, 0 ≤ j → j < k → τ 83 j = if m = 0 then ρ 83 j else -(ρ 83 j)
theorem pm_half_0 {τ : pm_H} {m : Int} (h : pm_one τ) : pm_half τ m 0 := ⟨τ, h, fun _ _ _ => rfl, fun j h1 h2 => by omega⟩
theorem pm_half_s {τ : pm_H} {m k k' v : Int} (h : pm_half τ m k) (hk : 0 ≤ k ∧ k < 9) (hk' : k' = k + 1) (hv : (m = 0 → v = τ 83 k) ∧ (¬ m = 0 → v = -(τ 83 k))) : pm_half (pm_up τ 83 k v) m k' := by
  subst hk'
  obtain ⟨ρ, h1, h2, h3⟩ := h
  refine ⟨ρ, h1, fun j j1 j2 => ?_, fun j j1 j2 => ?_⟩
  · rw [pu_nei (by omega)]
    exact h2 j (by omega) j2
  · by_cases hj : j = k
    · subst hj
      rw [pu_same]
      have e := h2 j (by omega) (by omega)
      split
      · rename_i hm
        rw [hv.1 hm, e]
      · rename_i hm
        rw [hv.2 hm, e]
    · rw [pu_nei hj]
      exact h3 j j1 (by omega)
theorem pm_half_e {τ : pm_H} {m k : Int} (h : pm_half τ m k) (hk : 9 ≤ k) : pm_one τ := by
  obtain ⟨ρ, h1, h2, h3⟩ := h
  by_cases hm : m = 0
  · refine pm_one_er h1 (fun j j1 j2 => ?_)
    rw [h3 j j1 (by omega), if_pos hm]
  · refine pm_one_neg h1 (fun j j1 j2 => ?_)
    rw [h3 j j1 (by omega), if_neg hm]
theorem pm_one_uo {τ : pm_H} {i v : Int} (h : pm_one τ) (hi : 9 ≤ i) : pm_one (pm_up τ 83 i v) := pm_one_er h (fun j j1 j2 => by rw [pu_nei (by omega)])
theorem pm_one_ne {τ : pm_H} {q : Nat} {i v : Int} (h : pm_one τ) (hq : q ≠ 83) : pm_one (pm_up τ q i v) := pm_one_eq h (pu_ne (Ne.symm hq))
theorem pm_gok_tr {τ : pm_H} {n g i v k : Int} (h : pm_gok τ n) (hk : k = 12 * g + 9 + i) (hi : 0 ≤ i ∧ i < 3) (hv : 0 ≤ v ∧ v ≤ 23) : pm_gok (pm_up τ 81 k v) n := by
  subst hk
  intro g' g1 g2
  obtain ⟨a1, a2, a3⟩ := h g' g1 g2
  refine ⟨fun k k1 k2 => ?_, fun k k1 k2 => ?_, ?_⟩
  · rw [pu_nei (by omega)]
    exact a1 k k1 k2
  · unfold pm_up
    split
    · exact hv
    · exact a2 k k1 k2
  · have e : pm_det (pm_up τ 81 (12 * g + 9 + i) v 81) (12 * g') = pm_det (τ 81) (12 * g') := pm_det_congr (fun k k1 k2 => by rw [pu_nei (by omega)])
    rw [e]
    exact a3
theorem pm_mid_1 {k : Int} (h : k % 4 = 0) : (-1 : Int) = -(pm_idf k) := by
  unfold pm_idf
  rw [if_pos h]
theorem pm_mid_0 {k : Int} (h : ¬ k % 4 = 0) : (0 : Int) = -(pm_idf k) := by
  unfold pm_idf
  rw [if_neg h]
  rfl
end ROT
