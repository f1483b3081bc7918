/-! the class as a whole: what every call keeps -/
section CL3
def pv_kf (σ τ : pm_H) : Prop := ∀ q : Nat, (q = 0 ∨ 77 ≤ q) → τ q = σ q
theorem pv_kf_rf {σ : pm_H} : pv_kf σ σ := fun _ _ => rfl
theorem pv_kf_up {σ τ : pm_H} {q : Nat} {i v : Int} (h : pv_kf σ τ) (hq : 0 < q ∧ q < 77) : pv_kf σ (pm_up τ q i v) := fun k hk => by
  rw [pu_ne (by omega)]
  exact h k hk
theorem pv_kf_tr {σ τ ρ : pm_H} {as : List Nat} {fs : List (Nat × Int)} (hc : pm_fr as fs τ ρ) (h : pv_kf σ τ) (ha : ∀ q ∈ as, 0 < q ∧ q < 77) (hs : ∀ z ∈ fs, 0 < z.1 ∧ z.1 < 77) : pv_kf σ ρ := fun k hk => by
  rw [← h k hk]
  refine pm_fa hc k (fun z => ?_) (fun z hz e => ?_)
  · have := ha k z
    omega
  · have := hs z hz
    omega
/-- all groups, and the two static arrays that are used as places -/
def pv_G6 (σ : pm_H) : Prop := True → (∀ p : Nat, pm_isG p → pv_GI σ p) ∧ pm_rg σ 117 0 6 0 2 ∧ pm_rg σ 118 0 6 0 2
theorem pv_G6_g {σ : pm_H} {p : Nat} (h : pv_G6 σ) (hp : pm_isG p) : pv_GI σ p := (h trivial).1 p hp
theorem pv_G6_n {σ : pm_H} {p : Nat} (h : pv_G6 σ) (hp : pm_isG p) : 0 ≤ σ p 5 * σ p 6 ∧ σ p 5 * σ p 6 ≤ 192 := (pv_GI_n ((h trivial).1 p hp)).2.2
theorem pv_G6_t {σ : pm_H} {p : Nat} (h : pv_G6 σ) (hp : pm_isG p) : pm_rg σ (p + 4) 0 2304 (-1) 47 := ((h trivial).1 p hp trivial).2.2.2.2
theorem pv_G6_7 {σ : pm_H} (h : pv_G6 σ) : pm_rg σ 117 0 6 0 2 := (h trivial).2.1
theorem pv_G6_8 {σ : pm_H} (h : pv_G6 σ) : pm_rg σ 118 0 6 0 2 := (h trivial).2.2
theorem pv_GI_e {σ τ : pm_H} {p : Nat} (h : pv_GI σ p) (e : τ p = σ p) (t : τ (p + 4) = σ (p + 4)) : pv_GI τ p := pv_GI_eq h (congrFun e _) (congrFun e _) (congrFun e _) t
theorem pv_G6_up {τ : pm_H} {q : Nat} {i v : Int} (h : pv_G6 τ) (hq : q < 41) : pv_G6 (pm_up τ q i v) := fun _ => ⟨fun p hp => by
  have a := pm_isG_n hp
  exact pv_GI_e (pv_G6_g h hp) (pu_ne (by omega)) (pu_ne (by omega)), pm_rg_ne (pv_G6_7 h) (by omega), pm_rg_ne (pv_G6_8 h) (by omega)⟩
theorem pv_G6_f0 {σ τ : pm_H} {as : List Nat} {fs : List (Nat × Int)} (hf : pm_fr as fs σ τ) (ha : ∀ q ∈ as, q < 41) (hs : ∀ z ∈ fs, z.1 < 41) (h : pv_G6 σ) : pv_G6 τ := by
  have e : ∀ q : Nat, 41 ≤ q → τ q = σ q := fun q hq => pm_fa hf q (fun z => by
    have := ha q z
    omega) (fun z hz e => by
    have := hs z hz
    omega)
  exact fun _ => ⟨fun p hp => by
    have a := pm_isG_n hp
    exact pv_GI_e (pv_G6_g h hp) (e _ (by omega)) (e _ (by omega)), pm_rg_eq (pv_G6_7 h) (e _ (by omega)), pm_rg_eq (pv_G6_8 h) (e _ (by omega))⟩
/-- one group changed, and it keeps to what a slot keeps to -/
theorem pv_G6_p {σ τ : pm_H} {p : Nat} {as : List Nat} {fs : List (Nat × Int)} (hf : pm_fr as fs σ τ) (ht : pv_GI τ p) (hp : pm_isG p) (h : pv_G6 σ) (ha : ∀ q ∈ as, (p < q ∧ q < p + 6) ∨ q < 41) (hs : ∀ z ∈ fs, z.1 = p ∨ z.1 < 41) : pv_G6 τ := by
  have b := pm_isG_n hp
  have e : ∀ q : Nat, 41 ≤ q → (q < p ∨ p + 6 ≤ q) → τ q = σ q := fun q hq hq2 => pm_fa hf q (fun z => by
    have := ha q z
    omega) (fun z hz e => by
    have := hs z hz
    omega)
  refine fun _ => ⟨fun k hk => ?_, pm_rg_eq (pv_G6_7 h) (e _ (by omega) (by omega)), pm_rg_eq (pv_G6_8 h) (e _ (by omega) (by omega))⟩
  have a := pm_isG_n hk
  by_cases hkp : k = p
  · rw [hkp]
    exact ht
  · exact pv_GI_e (pv_G6_g h hk) (e _ (by omega) (by omega)) (e _ (by omega) (by omega))
theorem pv_G6_l {σ τ : pm_H} {p : Nat} {as : List Nat} {fs : List (Nat × Int)} (hf : pm_fr as fs σ τ) (ht : pv_GL τ p) (hp : pm_isG p) (h : pv_G6 σ) (ha : ∀ q ∈ as, (p < q ∧ q < p + 6) ∨ q < 41) (hs : ∀ z ∈ fs, z.1 = p ∨ z.1 < 41) : pv_G6 τ := pv_G6_p hf (pv_GL_I ht) hp h ha hs
/-- what groupAt answers -/
def pv_GA (σ : pm_H) (r : Int) : Prop := True → pm_ref r = none ∨ ∃ p : Nat, pm_ref r = some p ∧ pm_isG p ∧ pv_GL σ p
theorem pv_GA_n {σ : pm_H} : pv_GA σ (pm_unref none) := fun _ => Or.inl rfl
theorem pv_GA_s {σ : pm_H} {p : Nat} (hp : pm_isG p) (h : pv_GL σ p) : pv_GA σ (pm_unref (some p)) := fun _ => Or.inr ⟨p, by
  unfold pm_ref pm_unref
  dsimp only
  rw [if_neg (by omega)]
  rfl, hp, h⟩
theorem pv_bs_rg (k v : Int) : 0 ≤ pv_bs k v ∧ pv_bs k v ≤ 1 := by
  unfold pv_bs
  split <;> decide
end CL3
