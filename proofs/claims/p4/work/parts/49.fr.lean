/-! what a run leaves as it was; heaps that were written, read -/
section FR
def pm_fr (as : List Nat) (fs : List (Nat × Int)) (σ τ : pm_H) : Prop := ∀ (q : Nat) (k : Int), q ∉ as → (q, k) ∉ fs → τ q k = σ q k
variable {as as' : List Nat} {fs fs' : List (Nat × Int)} {σ τ ρ : pm_H} {q : Nat} {i v : Int}
theorem pm_fr_rf : pm_fr as fs σ σ := fun _ _ _ _ => rfl
theorem pm_fr_up (h : pm_fr as fs σ τ) (hq : q ∈ as) : pm_fr as fs σ (pm_up τ q i v) := by
  intro q' k h1 h2
  rw [← h q' k h1 h2]
  unfold pm_up
  rw [if_neg (fun z => h1 (by rw [z.1]; exact hq))]
theorem pm_fr_uf (h : pm_fr as fs σ τ) (hq : (q, i) ∈ fs) : pm_fr as fs σ (pm_up τ q i v) := by
  intro q' k h1 h2
  rw [← h q' k h1 h2]
  unfold pm_up
  rw [if_neg (fun z => h2 (by rw [z.1, z.2]; exact hq))]
theorem pm_fr_cp {a d : Nat} {j n : Int} (h : pm_fr as fs σ τ) (hq : d ∈ as) : pm_fr as fs σ (pm_cp τ a i d j n) := by
  intro q' k h1 h2
  rw [← h q' k h1 h2]
  unfold pm_cp
  rw [if_neg (fun z => h1 (by rw [z.1]; exact hq))]
theorem pm_fr_tr (hc : pm_fr as' fs' τ ρ) (h : pm_fr as fs σ τ) (ha : ∀ q ∈ as', q ∈ as) (hf : ∀ z ∈ fs', z ∈ fs ∨ z.1 ∈ as) : pm_fr as fs σ ρ := by
  intro q k h1 h2
  rw [← h q k h1 h2]
  refine hc q k (fun z => h1 (ha q z)) (fun z => ?_)
  rcases hf _ z with h3 | h3
  · exact h2 h3
  · exact h1 h3
theorem pm_fa (h : pm_fr as fs σ τ) (q : Nat) (h1 : q ∉ as) (h2 : ∀ z ∈ fs, z.1 ≠ q) : τ q = σ q := by
  funext k
  exact h q k h1 (fun z => h2 _ z rfl)
theorem pm_ff (h : pm_fr as fs σ τ) (q : Nat) (k : Int) (h1 : q ∉ as) (h2 : (q, k) ∉ fs) : τ q k = σ q k := h q k h1 h2
theorem pu_ne {q' : Nat} (h : q' ≠ q) : pm_up σ q i v q' = σ q' := pm_up_ne h
theorem pu_same : pm_up σ q i v q i = v := by
  unfold pm_up
  rw [if_pos ⟨rfl, rfl⟩]
theorem pu_nei {j : Int} (h : j ≠ i) : pm_up σ q i v q j = σ q j := by
  unfold pm_up
  rw [if_neg (fun z => h z.2)]
theorem pu_eqi {j : Int} (h : j = i) : pm_up σ q i v q j = v := by
  rw [h]
  exact pu_same
theorem pcp_ne {a d k : Nat} {j n : Int} (h : k ≠ d) : pm_cp σ a i d j n k = σ k := pm_cp_ne h
end FR
section RG
/-- all numbers of place q from a on, ahead of b, lie from lo to hi -/
def pm_rg (σ : pm_H) (q : Nat) (a b lo hi : Int) : Prop := ∀ k : Int, a ≤ k → k < b → lo ≤ σ q k ∧ σ q k ≤ hi
variable {σ τ : pm_H} {q q' : Nat} {a b lo hi i v : Int}
theorem pm_rg_up (h : pm_rg σ q a b lo hi) (hv : lo ≤ v ∧ v ≤ hi) : pm_rg (pm_up σ q i v) q a b lo hi := by
  intro k h1 h2
  unfold pm_up
  split
  · exact hv
  · exact h k h1 h2
theorem pm_rg_uo (h : pm_rg σ q a b lo hi) (hv : i < a ∨ b ≤ i) : pm_rg (pm_up σ q i v) q a b lo hi := by
  intro k h1 h2
  unfold pm_up
  rw [if_neg (fun z => by omega)]
  exact h k h1 h2
theorem pm_rg_ne (h : pm_rg σ q a b lo hi) (hq : q ≠ q') : pm_rg (pm_up σ q' i v) q a b lo hi := by
  intro k h1 h2
  rw [pu_ne hq]
  exact h k h1 h2
theorem pm_rg_eq (h : pm_rg σ q a b lo hi) (e : τ q = σ q) : pm_rg τ q a b lo hi := by
  intro k h1 h2
  rw [e]
  exact h k h1 h2
theorem pm_rg_sub {a' b' lo' hi' : Int} (h : pm_rg σ q a b lo hi) (h1 : a ≤ a') (h2 : b' ≤ b) (h3 : lo' ≤ lo) (h4 : hi ≤ hi') : pm_rg σ q a' b' lo' hi' := by
  intro k g1 g2
  have := h k (by omega) (by omega)
  omega
theorem pm_rg_nil (h : b ≤ a) : pm_rg σ q a b lo hi := fun k h1 h2 => by omega
/-- one more at the end -/
theorem pm_rg_push (h : pm_rg σ q a b lo hi) (hv : lo ≤ v ∧ v ≤ hi) {b' : Int} (hb : b' = b + 1) : pm_rg (pm_up σ q b v) q a b' lo hi := by
  intro k h1 h2
  unfold pm_up
  split
  · exact hv
  · rename_i hk
    exact h k h1 (by
      have : k ≠ b := fun e => hk ⟨rfl, e⟩
      omega)
theorem pm_and255 (a : Int) : 0 ≤ pm_and a 255 ∧ pm_and a 255 ≤ 255 := by
  unfold pm_and
  have h := ax_andn (x := Int32.ofInt a) (y := Int32.ofInt 255) (by decide)
  have e : (Int32.ofInt 255).toInt = 255 := by decide
  rw [e] at h
  exact h
end RG
