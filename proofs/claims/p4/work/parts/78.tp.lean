/-! the loops that look for the order of an operator -/
section TP
def pv_at (σ : pm_H) (b : Int) : Prop := True → ∃ s i : Int, b = 4608 * s + 12 * i ∧ (0 ≤ s ∧ s < 6) ∧ pm_Gr (pm_rk σ s) (σ 87 s) ∧ (0 ≤ i ∧ i < σ 87 s)
theorem pv_at_n {σ : pm_H} {b : Int} (h : pv_at σ b) : 0 ≤ b ∧ b ≤ 27636 := by
  obtain ⟨s, i, e, hs, G, hi⟩ := h trivial
  have := G.n2
  omega
theorem pv_at_eq {σ τ : pm_H} {b : Int} (h : pv_at σ b) (e : τ 86 = σ 86) (e2 : τ 87 = σ 87) : pv_at τ b := by
  unfold pv_at pm_rk
  rw [e, e2]
  exact h
theorem pv_at_op {σ : pm_H} {b : Int} (h : pv_at σ b) : pv_op (σ 86) b := by
  obtain ⟨s, i, e, hs, G, hi⟩ := h trivial
  rw [e]
  exact pv_op_G G hi
theorem pv_at_md {σ : pm_H} {b : Int} (h : pv_at σ b) : pm_md (pm_o (σ 86) b) := by
  obtain ⟨s, i, e, hs, G, hi⟩ := h trivial
  rw [e, ← pm_rk_o]
  exact G.md i hi.1 hi.2
theorem pv_at_pw {σ : pm_H} {b : Int} (h : pv_at σ b) (m : Nat) : pm_md (pv_pw (pm_o (σ 86) b) m) := by
  obtain ⟨s, i, e, hs, G, hi⟩ := h trivial
  obtain ⟨k, k1, k2, k3⟩ := pv_pw_in G hi m
  rw [e, ← pm_rk_o, ← k3]
  exact G.md k k1 k2
theorem pv_at_ord {σ : pm_H} {b : Int} (h : pv_at σ b) : ∃ N : Nat, 1 ≤ N ∧ (N : Int) ≤ 384 ∧ pv_pw (pm_o (σ 86) b) N = pm_e := by
  obtain ⟨s, i, e, hs, G, hi⟩ := h trivial
  obtain ⟨N, n1, n2, n3⟩ := pv_ord G hi
  have := G.n2
  exact ⟨N, n1, by omega, by rw [e, ← pm_rk_o]; exact n3⟩
theorem pv_pw_1 {x : pm_O} (h : pm_red x) : pv_pw x 1 = x := pm_mul_e h
/-- 'one' is the n-th power, as a matrix (w = 9) or whole (w = 12) -/
def pv_tp (σ τ : pm_H) (w b n : Int) : Prop := True → ∃ N : Nat, (1 ≤ n ∧ n ≤ (N : Int) ∧ (N : Int) ≤ 384) ∧ pv_pw (pm_o (σ 86) b) N = pm_e ∧ pv_me (pm_o (τ 83) 0) (pv_pw (pm_o (σ 86) b) n.toNat) ∧ (w = 12 → pm_o (τ 83) 0 = pv_pw (pm_o (σ 86) b) n.toNat) ∧ pm_sz (τ 83) 0
theorem pv_tp_n {σ τ : pm_H} {w b n : Int} (h : pv_tp σ τ w b n) : 1 ≤ n ∧ n ≤ 384 := by
  obtain ⟨N, h1, -⟩ := h trivial
  omega
theorem pv_tp_1 {σ τ : pm_H} {w b n m : Int} (h : pv_at σ b) (e : pm_er τ 83 0 n (fun k => σ 86 (b + k))) (hn : 12 ≤ n) (hm : m = 1) : pv_tp σ τ w b m := by
  subst hm
  intro _
  obtain ⟨N, n1, n2, n3⟩ := pv_at_ord h
  have eo : pm_o (τ 83) 0 = pm_o (σ 86) b := pm_o_congr (fun k k1 k2 => by rw [Int.zero_add]; exact e k k1 (by omega))
  have e1 : pv_pw (pm_o (σ 86) b) (1 : Int).toNat = pm_o (σ 86) b := pv_pw_1 (pv_at_md h).2.1
  refine ⟨N, by omega, n3, by rw [e1, eo]; exact pv_me_rf, fun _ => by rw [e1, eo], pm_sz_md ?_⟩
  rw [eo]
  exact pv_at_md h
/-- the copying of 'got' into 'one', as far as k; ρ is the heap ahead of the step -/
def pv_tq (σ τ : pm_H) (w b n k : Int) : Prop := True → ∃ ρ : pm_H, pv_tp σ ρ w b n ∧ (w = 9 ∨ w = 12) ∧ ((w = 9 ∧ ¬ pv_me (pm_o (ρ 83) 0) pm_e) ∨ (w = 12 ∧ ¬ pm_o (ρ 83) 0 = pm_e)) ∧ pm_er τ 85 0 12 (pm_af (σ 86) b (ρ 83) 0) ∧ (∀ j : Int, 0 ≤ j → j < k → τ 83 j = τ 85 j) ∧ (∀ j : Int, k ≤ j → j < 12 → τ 83 j = ρ 83 j)
theorem pv_tq_0 {σ τ ρ : pm_H} {w b n : Int} (h : pv_tp σ ρ w b n) (hw : (w = 9 ∧ ¬ pv_me (pm_o (ρ 83) 0) pm_e) ∨ (w = 12 ∧ ¬ pm_o (ρ 83) 0 = pm_e)) (e0 : ρ 86 = σ 86) (e : τ 83 = ρ 83) (hq : pm_er τ 85 0 12 (pm_af (ρ 86) b (ρ 83) 0)) : pv_tq σ τ w b n 0 := by
  intro _
  rw [e0] at hq
  exact ⟨ρ, h, by omega, hw, hq, fun j _ _ => by omega, fun j _ _ => by rw [e]⟩
theorem pv_tq_s {σ τ : pm_H} {w b n k k' v : Int} (h : pv_tq σ τ w b n k) (hk : 0 ≤ k ∧ k < 12) (hv : v = τ 85 k) (hk' : k' = k + 1) : pv_tq σ (pm_up τ 83 k v) w b n k' := by
  subst hk' hv
  intro _
  obtain ⟨ρ, h1, h2, h3, h4, h5, h6⟩ := h trivial
  refine ⟨ρ, h1, h2, h3, pm_er_ne h4 (by decide), fun j j1 j2 => ?_, fun j j1 j2 => ?_⟩
  · rw [pu_ne (show 85 ≠ 83 by decide)]
    by_cases hj : j = k
    · rw [hj, pu_same]
    · rw [pu_nei hj]
      exact h5 j j1 (by omega)
  · rw [pu_nei (by omega)]
    exact h6 j (by omega) j2
theorem pv_me_sz {f : Int → Int} {a : pm_O} (h : pv_me (pm_o f 0) a) (ha : pm_md a) (ht : ∀ k : Int, 9 ≤ k → k < 12 → -999 ≤ f k ∧ f k ≤ 999) : pm_sz f 0 := by
  intro k k1 k2
  rw [Int.zero_add]
  by_cases h9 : 9 ≤ k
  · exact ht k h9 k2
  · obtain ⟨h0, h1, h2, h3, h4, h5, h6, h7, h8⟩ := h trivial
    have hm := ha.1
    have : k = 0 ∨ k = 1 ∨ k = 2 ∨ k = 3 ∨ k = 4 ∨ k = 5 ∨ k = 6 ∨ k = 7 ∨ k = 8 := by omega
    rcases this with e | e | e | e | e | e | e | e | e <;> subst e
    · exact hm _ (Or.inl h0)
    · exact hm _ (Or.inr (Or.inl h1))
    · exact hm _ (Or.inr (Or.inr (Or.inl h2)))
    · exact hm _ (Or.inr (Or.inr (Or.inr (Or.inl h3))))
    · exact hm _ (Or.inr (Or.inr (Or.inr (Or.inr (Or.inl h4)))))
    · exact hm _ (Or.inr (Or.inr (Or.inr (Or.inr (Or.inr (Or.inl h5))))))
    · exact hm _ (Or.inr (Or.inr (Or.inr (Or.inr (Or.inr (Or.inr (Or.inl h6)))))))
    · exact hm _ (Or.inr (Or.inr (Or.inr (Or.inr (Or.inr (Or.inr (Or.inr (Or.inl h7))))))))
    · exact hm _ (Or.inr (Or.inr (Or.inr (Or.inr (Or.inr (Or.inr (Or.inr (Or.inr h8))))))))
theorem pv_tq_e {σ τ : pm_H} {w b n n' k : Int} (h : pv_tq σ τ w b n k) (ha : pv_at σ b) (hk : k = w) (hn' : n' = n + 1) : pv_tp σ τ w b n' := by
  subst hn' hk
  intro _
  obtain ⟨ρ, h1, h2, h3, h4, h5, h6⟩ := h trivial
  obtain ⟨N, a1, a2, a3, a4, a5⟩ := h1 trivial
  have hne : n ≠ (N : Int) := fun e => by
    have en : n.toNat = N := by omega
    rw [en, a2] at a3 a4
    rcases h3 with ⟨-, h⟩ | ⟨h12, h⟩
    · exact h a3
    · exact h (a4 h12)
  have hp : pm_o (τ 85) 0 = pm_mul (pm_o (σ 86) b) (pm_o (ρ 83) 0) := pm_af_o (pm_sz_md (pv_at_md ha)) a5 h4
  have e1 : (n + 1).toNat = n.toNat + 1 := by omega
  have hme : pv_me (pm_o (τ 83) 0) (pv_pw (pm_o (σ 86) b) (n + 1).toNat) := by
    rw [e1]
    refine pv_me_tr (pv_me_o (g := τ 85) (c := 0) (fun j j1 j2 => by rw [Int.zero_add]; exact h5 j j1 (by omega))) ?_
    rw [hp]
    exact pv_me_mul a3
  have h12 : k = 12 → pm_o (τ 83) 0 = pv_pw (pm_o (σ 86) b) (n + 1).toNat := fun z => by
    rw [e1]
    have : pm_o (τ 83) 0 = pm_o (τ 85) 0 := pm_o_congr (fun j j1 j2 => by rw [Int.zero_add]; exact h5 j j1 (by omega))
    rw [this, hp, a4 z]
    rfl
  refine ⟨N, by omega, a2, hme, h12, ?_⟩
  rcases h2 with z | z
  · refine pv_me_sz hme (pv_at_pw ha _) (fun j j1 j2 => ?_)
    rw [h6 j (by omega) j2]
    have := a5 j (by omega) j2
    rw [Int.zero_add] at this
    exact this
  · refine pm_sz_md ?_
    rw [h12 z]
    exact pv_at_pw ha _
theorem pv_tp_eq {σ τ ρ : pm_H} {w b n : Int} (h : pv_tp σ τ w b n) (e : ρ 83 = τ 83) : pv_tp σ ρ w b n := by
  unfold pv_tp
  rw [e]
  exact h
end TP
