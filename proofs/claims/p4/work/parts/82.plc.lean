/-! the places of an orbit -/
section PLC
def pv_pn (σ : pm_H) (k : Int) (f : Int → Int) (n : Int) : Prop := ∀ j : Int, 0 ≤ j → j < n → σ 105 (3 * k + j) = f j
theorem pv_pn_0 {σ : pm_H} {k : Int} {f : Int → Int} {n : Int} (h : n ≤ 0) : pv_pn σ k f n := fun j _ _ => by omega
theorem pv_pn_s {σ : pm_H} {k : Int} {f : Int → Int} {n n' : Int} (h : pv_pn σ k f n) (e : σ 105 (3 * k + n) = f n) (hn : n' = n + 1) : pv_pn σ k f n' := by
  subst hn
  intro j h1 h2
  by_cases hj : j = n
  · rw [hj]
    exact e
  · exact h j h1 (by omega)
theorem pv_pn_e {σ : pm_H} {k : Int} {f : Int → Int} {n : Int} (h : pv_pn σ k f n) (hn : 3 ≤ n) : pv_pn σ k f 3 := fun j h1 h2 => h j h1 (by omega)
theorem pv_pn_n {σ : pm_H} {k : Int} {f : Int → Int} {n : Int} (e : ¬ σ 105 (3 * k + n) = f n) (hn : 0 ≤ n ∧ n < 3) : ¬ pv_pn σ k f 3 := fun h => e (h n hn.1 hn.2)
/-- one of the places is f -/
def pv_ms (σ : pm_H) (m : Int) (f : Int → Int) : Prop := True → ∃ k : Int, 0 ≤ k ∧ k < m ∧ pv_pn σ k f 3
def pv_mo (σ : pm_H) (m : Int) (τ : pm_H) (m' : Int) : Prop := ∀ f : Int → Int, pv_ms σ m f → pv_ms τ m' f
/-- the places from k on moved up, down to number i -/
def pv_sf (σ τ : pm_H) (m i : Int) : Prop := True → (∀ q : Int, i + 3 < q → q < 3 * m + 3 → τ 105 q = σ 105 (q - 3)) ∧ ∀ q : Int, q ≤ i + 3 → τ 105 q = σ 105 q
theorem pv_sf_0 {σ τ : pm_H} {m i : Int} (e : τ 105 = σ 105) (h : 3 * m - 1 ≤ i) : pv_sf σ τ m i := fun _ => ⟨fun q _ _ => by omega, fun q _ => by rw [e]⟩
theorem pv_sf_s {σ τ : pm_H} {m i i' p v : Int} (h : pv_sf σ τ m i) (hp : p = i + 3) (hv : v = τ 105 i) (hi : i' = i - 1) : pv_sf σ (pm_up τ 105 p v) m i' := by
  subst hp hv hi
  intro _
  obtain ⟨h1, h2⟩ := h trivial
  refine ⟨fun q q1 q2 => ?_, fun q q1 => ?_⟩
  · by_cases hq : q = i + 3
    · rw [hq, pu_same, h2 i (by omega), show i + 3 - 3 = i by omega]
    · rw [pu_nei hq]
      exact h1 q (by omega) q2
  · rw [pu_nei (by omega)]
    exact h2 q (by omega)
/-- the new place written at k, as far as j -/
def pv_sg (σ τ : pm_H) (m k j : Int) : Prop := True → (∀ q : Int, 3 * k + 3 ≤ q → q < 3 * m + 3 → τ 105 q = σ 105 (q - 3)) ∧ (∀ q : Int, q < 3 * k → τ 105 q = σ 105 q) ∧ ∀ q : Int, 0 ≤ q → q < j → τ 105 (3 * k + q) = σ 108 q
theorem pv_sg_0 {σ τ : pm_H} {m k i : Int} (h : pv_sf σ τ m i) (hi : i = 3 * k - 1) : pv_sg σ τ m k 0 := by
  intro _
  obtain ⟨h1, h2⟩ := h trivial
  exact ⟨fun q q1 q2 => h1 q (by omega) q2, fun q q1 => h2 q (by omega), fun q _ _ => by omega⟩
theorem pv_sg_s {σ τ : pm_H} {m k j j' p v : Int} (h : pv_sg σ τ m k j) (hj : 0 ≤ j ∧ j < 3) (hp : p = 3 * k + j) (hv : v = σ 108 j) (hj' : j' = j + 1) : pv_sg σ (pm_up τ 105 p v) m k j' := by
  subst hp hv hj'
  intro _
  obtain ⟨h1, h2, h3⟩ := h trivial
  refine ⟨fun q q1 q2 => ?_, fun q q1 => ?_, fun q q1 q2 => ?_⟩
  · rw [pu_nei (by omega)]
    exact h1 q q1 q2
  · rw [pu_nei (by omega)]
    exact h2 q q1
  · by_cases e : q = j
    · rw [e, pu_same]
    · rw [pu_nei (by omega)]
      exact h3 q q1 (by omega)
theorem pv_sg_a {σ τ ρ : pm_H} {m m' k j : Int} (h : pv_sg σ τ m k j) (hj : 3 ≤ j) (hk : 0 ≤ k ∧ k ≤ m) (hm : m' = m + 1) (e : ρ 105 = τ 105) : pv_ms ρ m' (σ 108) := by
  intro _
  obtain ⟨h1, h2, h3⟩ := h trivial
  exact ⟨k, by omega, by omega, fun q q1 q2 => by rw [e]; exact h3 q q1 (by omega)⟩
theorem pv_sg_b {σ τ ρ : pm_H} {m m' k j : Int} (h : pv_sg σ τ m k j) (hj : 3 ≤ j) (hk : 0 ≤ k ∧ k ≤ m) (hm : m' = m + 1) (e : ρ 105 = τ 105) : pv_mo σ m ρ m' := by
  intro f hf _
  obtain ⟨h1, h2, h3⟩ := h trivial
  obtain ⟨l, l1, l2, l3⟩ := hf trivial
  by_cases hl : l < k
  · exact ⟨l, l1, by omega, fun q q1 q2 => by rw [e, h2 _ (by omega)]; exact l3 q q1 q2⟩
  · refine ⟨l + 1, by omega, by omega, fun q q1 q2 => ?_⟩
    rw [e, h1 _ (by omega) (by omega), show 3 * (l + 1) + q - 3 = 3 * l + q by omega]
    exact l3 q q1 q2
theorem pv_mo_rf {σ τ : pm_H} {m m' : Int} (e : τ 105 = σ 105) (hm : m' = m) : pv_mo σ m τ m' := by
  subst hm
  intro f hf _
  obtain ⟨l, l1, l2, l3⟩ := hf trivial
  exact ⟨l, l1, l2, fun q q1 q2 => by rw [e]; exact l3 q q1 q2⟩
theorem pv_ms_at {σ τ : pm_H} {m k : Int} {f g : Int → Int} (h : pv_pn σ k f 3) (hk : 0 ≤ k ∧ k < m) (e : τ 105 = σ 105) (e2 : f = g) : pv_ms τ m g := by
  subst e2
  intro _
  exact ⟨k, hk.1, hk.2, fun q q1 q2 => by rw [e]; exact h q q1 q2⟩
end PLC
