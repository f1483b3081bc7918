/-! a part of a group: rows chosen, row by row, and their products -/
section PRT
def pv_tid (σ : pm_H) (at' r : Int) : Prop := True → pm_o (σ 86) at' = pm_e → r = 1
theorem pv_tid_1 {σ : pm_H} {a r : Int} (h : pm_o (σ 86) a = pm_e → r = 1) : pv_tid σ a r := fun _ => h
theorem pv_e_at {f : Int → Int} {a : Int} (h : pm_o f a = pm_e) : f a = 1 ∧ f (a + 1) = 0 ∧ f (a + 2) = 0 ∧ f (a + 3) = 0 ∧ f (a + 4) = 1 ∧ f (a + 5) = 0 ∧ f (a + 6) = 0 ∧ f (a + 7) = 0 ∧ f (a + 8) = 1 := ⟨congrArg pm_O.a0 h, congrArg pm_O.a1 h, congrArg pm_O.a2 h, congrArg pm_O.a3 h, congrArg pm_O.a4 h, congrArg pm_O.a5 h, congrArg pm_O.a6 h, congrArg pm_O.a7 h, congrArg pm_O.a8 h⟩
theorem pv_e_det {f : Int → Int} {a : Int} (h : pm_o f a = pm_e) : w32 (pm_det f a) = 1 := by
  obtain ⟨h0, h1, h2, h3, h4, h5, h6, h7, h8⟩ := pv_e_at h
  unfold pm_det
  rw [h0, h1, h2, h3, h4, h5, h6, h7, h8]
  decide
def pv_pt (σ τ : pm_H) (s i m : Int) : Prop := True → (∀ k : Int, 0 ≤ k → k < m → ∃ l : Int, 0 ≤ l ∧ l < i ∧ ¬ τ 95 l = 0 ∧ ∀ j : Int, 0 ≤ j → j < 12 → pm_rw τ k j = pm_rk σ s l j) ∧ (∀ l : Int, 0 ≤ l → l < i → ¬ τ 95 l = 0 → ∃ k : Int, 0 ≤ k ∧ k < m ∧ pm_o (τ 82) (12 * k) = pm_o (pm_rk σ s l) 0) ∧ pm_so τ m ∧ ∀ l : Int, 0 ≤ l → l < i → pm_o (pm_rk σ s l) 0 = pm_e → ¬ τ 95 l = 0
theorem pv_pt_0 {σ τ : pm_H} {s i m : Int} (hi : i = 0) (hm : m = 0) : pv_pt σ τ s i m := by
  subst hi hm
  intro _
  exact ⟨fun k _ _ => by omega, fun l _ _ => by omega, fun i j _ _ _ => by omega, fun l _ _ => by omega⟩
theorem pv_pt_q {σ τ ρ : pm_H} {s i m m' : Int} (h : pv_pt σ τ s i m) (e : ρ 82 = τ 82) (e2 : ∀ l : Int, 0 ≤ l → l < i → ρ 95 l = τ 95 l) (hm : m' = m) : pv_pt σ ρ s i m' := by
  subst hm
  intro _
  obtain ⟨h1, h2, h3, h4⟩ := h trivial
  refine ⟨fun k k1 k2 => ?_, fun l l1 l2 q => ?_, ?_, fun l l1 l2 q => ?_⟩
  · obtain ⟨l, l1, l2, l3, l4⟩ := h1 k k1 k2
    exact ⟨l, l1, l2, by rw [e2 l l1 l2]; exact l3, by unfold pm_rw; rw [e]; exact l4⟩
  · rw [e]
    exact h2 l l1 l2 (by rw [← e2 l l1 l2]; exact q)
  · unfold pm_so pm_rw
    rw [e]
    exact h3
  · rw [e2 l l1 l2]
    exact h4 l l1 l2 q
theorem pv_pt_n {σ τ ρ : pm_H} {s i i' m m' : Int} (h : pv_pt σ τ s i m) (hn : ¬ pm_o (pm_rk σ s i) 0 = pm_e) (e : ρ 82 = τ 82) (e2 : ∀ l : Int, 0 ≤ l → l < i → ρ 95 l = τ 95 l) (e3 : ρ 95 i = 0) (hi : i' = i + 1) (hm : m' = m) : pv_pt σ ρ s i' m' := by
  have g := pv_pt_q h e e2 hm
  subst hi
  intro _
  obtain ⟨h1, h2, h3, h4⟩ := g trivial
  refine ⟨fun k k1 k2 => ?_, fun l l1 l2 q => ?_, h3, fun l l1 l2 q => ?_⟩
  · obtain ⟨l, l1, l2, l3, l4⟩ := h1 k k1 k2
    exact ⟨l, l1, by omega, l3, l4⟩
  · by_cases hl : l = i
    · subst hl
      exact absurd e3 q
    · exact h2 l l1 (by omega) q
  · by_cases hl : l = i
    · subst hl
      exact absurd q hn
    · exact h4 l l1 (by omega) q
theorem pv_pt_p {σ τ ρ : pm_H} {s i i' m m' : Int} (h : pv_pt σ τ s i m) (G : pm_Gr (pm_rk σ s) (σ 87 s)) (hin : 0 ≤ i ∧ i < σ 87 s) (hg : pm_er τ 85 0 12 (pm_rk σ s i)) (hc : ¬ τ 95 i = 0) (e95 : ρ 95 = τ 95) (p1 : pm_er ρ 82 0 (12 * m) (τ 82)) (p2 : pm_er ρ 82 (12 * m) (12 * m + 12) (fun j => τ 85 (j - 12 * m))) (hm0 : 0 ≤ m) (hi : i' = i + 1) (hm : m' = m + 1) : pv_pt σ ρ s i' m' := by
  subst hi hm
  intro _
  obtain ⟨h1, h2, h3, h4⟩ := h trivial
  have r1 : ∀ k : Int, 0 ≤ k → k < m → ∀ j : Int, 0 ≤ j → j < 12 → pm_rw ρ k j = pm_rw τ k j := fun k k1 k2 j j1 j2 => p1 _ (by omega) (by omega)
  have r2 : ∀ j : Int, 0 ≤ j → j < 12 → pm_rw ρ m j = pm_rk σ s i j := fun j j1 j2 => by
    rw [← hg j j1 j2]
    unfold pm_rw
    rw [p2 _ (by omega) (by omega)]
    show τ 85 (12 * m + j - 12 * m) = τ 85 j
    congr 1
    omega
  refine ⟨fun k k1 k2 => ?_, fun l l1 l2 q => ?_, fun x y x1 x2 x3 => ?_, fun l l1 l2 q => ?_⟩
  · by_cases hk : k = m
    · subst hk
      exact ⟨i, hin.1, by omega, by rw [e95]; exact hc, r2⟩
    · obtain ⟨l, l1, l2, l3, l4⟩ := h1 k k1 (by omega)
      exact ⟨l, l1, by omega, by rw [e95]; exact l3, fun j j1 j2 => by rw [r1 k k1 (by omega) j j1 j2]; exact l4 j j1 j2⟩
  · by_cases hl : l = i
    · subst hl
      refine ⟨m, hm0, by omega, ?_⟩
      rw [← pm_rw_o]
      exact pm_o_congr (fun j j1 j2 => by rw [Int.zero_add]; exact r2 j j1 j2)
    · obtain ⟨k, k1, k2, k3⟩ := h2 l l1 (by omega) (by rw [← e95]; exact q)
      refine ⟨k, k1, by omega, ?_⟩
      rw [← k3, ← pm_rw_o, ← pm_rw_o]
      exact pm_o_congr (fun j j1 j2 => by rw [Int.zero_add]; exact r1 k k1 k2 j j1 j2)
  · by_cases hy : y = m
    · subst hy
      obtain ⟨l, l1, l2, l3, l4⟩ := h1 x x1 (by omega)
      exact pm_lt_cg (G.lt l i l1 l2 hin.2) (fun j j1 j2 => by rw [r1 x x1 (by omega) j j1 j2]; exact l4 j j1 j2) r2
    · exact pm_lt_cg (h3 x y x1 x2 (by omega)) (r1 x x1 (by omega)) (r1 y (by omega) (by omega))
  · rw [e95]
    by_cases hl : l = i
    · subst hl
      exact hc
    · exact h4 l l1 (by omega) q
def pv_cc (σ τ : pm_H) (s i j : Int) : Prop := True → ∀ a b : Int, 0 ≤ a → 0 ≤ b → a < σ 87 s → b < σ 87 s → (a < i ∨ a = i ∧ b < j) → ¬ τ 95 a = 0 → ¬ τ 95 b = 0 → ∃ c : Int, 0 ≤ c ∧ c < σ 87 s ∧ ¬ τ 95 c = 0 ∧ pm_o (pm_rk σ s c) 0 = pm_mul (pm_o (pm_rk σ s a) 0) (pm_o (pm_rk σ s b) 0)
theorem pv_cc_0 {σ τ : pm_H} {s i j : Int} (hi : i = 0) (hj : j = 0) : pv_cc σ τ s i j := fun _ a b a1 b1 _ _ h => by omega
theorem pv_cc_r {σ τ ρ : pm_H} {s i i' j : Int} (h : pv_cc σ τ s i j) (hj : σ 87 s ≤ j) (hi : i' = i + 1) (e : ρ 95 = τ 95) : pv_cc σ ρ s i' 0 := fun _ a b a1 b1 a2 b2 c => by
  rw [e]
  exact h trivial a b a1 b1 a2 b2 (by omega)
theorem pv_cc_q {σ τ ρ : pm_H} {s i j : Int} (h : pv_cc σ τ s i j) (e : ρ 95 = τ 95) : pv_cc σ ρ s i j := fun _ => by
  rw [e]
  exact h trivial
/-- one of the two is not chosen -/
theorem pv_cc_n {σ τ ρ : pm_H} {s i j j' : Int} (h : pv_cc σ τ s i j) (hn : τ 95 i = 0 ∨ τ 95 j = 0) (hj : j' = j + 1) (e : ρ 95 = τ 95) : pv_cc σ ρ s i j' := fun _ a b a1 b1 a2 b2 c q1 q2 => by
  rw [e] at q1 q2 ⊢
  by_cases hb : a = i ∧ b = j
  · obtain ⟨rfl, rfl⟩ := hb
    rcases hn with hn | hn
    · exact absurd hn q1
    · exact absurd hn q2
  · exact h trivial a b a1 b1 a2 b2 (by omega) q1 q2
theorem pv_cc_p {σ τ ρ : pm_H} {s i j j' r : Int} (h : pv_cc σ τ s i j) (hr : 0 ≤ r ∧ r < σ 87 s) (hp : pm_o (pm_rk σ s r) 0 = pm_mul (pm_o (pm_rk σ s i) 0) (pm_o (pm_rk σ s j) 0)) (hc : ¬ ρ 95 r = 0) (hj : j' = j + 1) (e : ρ 95 = τ 95) : pv_cc σ ρ s i j' := fun _ a b a1 b1 a2 b2 c q1 q2 => by
  by_cases hb : a = i ∧ b = j
  · obtain ⟨rfl, rfl⟩ := hb
    exact ⟨r, hr.1, hr.2, hc, hp⟩
  · rw [e] at q1 q2 ⊢
    exact h trivial a b a1 b1 a2 b2 (by omega) q1 q2
theorem pv_pt_e {σ τ : pm_H} {s i j k m : Int} (h : pv_pt σ τ s i m) (C : pv_cc σ τ s k j) (G : pm_Gr (pm_rk σ s) (σ 87 s)) (hi : i = σ 87 s) (hk : σ 87 s ≤ k) : pm_Sg τ m ∧ pm_so τ m ∧ 1 ≤ m := by
  subst hi
  obtain ⟨h1, h2, h3, h4⟩ := h trivial
  have ro : ∀ k : Int, 0 ≤ k → k < m → ∃ l : Int, 0 ≤ l ∧ l < σ 87 s ∧ ¬ τ 95 l = 0 ∧ pm_o (τ 82) (12 * k) = pm_o (pm_rk σ s l) 0 := fun k k1 k2 => by
    obtain ⟨l, l1, l2, l3, l4⟩ := h1 k k1 k2
    refine ⟨l, l1, l2, l3, ?_⟩
    rw [← pm_rw_o]
    exact pm_o_congr (fun j j1 j2 => by rw [Int.zero_add]; exact l4 j j1 j2)
  have he : ∃ k : Int, 0 ≤ k ∧ k < m ∧ pm_o (τ 82) (12 * k) = pm_e := by
    obtain ⟨l, l1, l2, l3⟩ := G.ee
    obtain ⟨k, k1, k2, k3⟩ := h2 l l1 l2 (h4 l l1 l2 l3)
    exact ⟨k, k1, k2, by rw [k3]; exact l3⟩
  refine ⟨⟨fun k k1 k2 => ?_, he, pm_so_ne h3, fun x y x1 x2 y1 y2 => ?_⟩, h3, ?_⟩
  · obtain ⟨l, l1, l2, -, l3⟩ := ro k k1 k2
    rw [l3]
    exact G.md l l1 l2
  · obtain ⟨l, l1, l2, l3, l4⟩ := ro x x1 x2
    obtain ⟨p, p1, p2, p3, p4⟩ := ro y y1 y2
    obtain ⟨c, c1, c2, c3, c4⟩ := C trivial l p l1 p1 l2 p2 (by omega) l3 p3
    obtain ⟨k, k1, k2, k3⟩ := h2 c c1 c2 c3
    exact ⟨k, k1, k2, by rw [k3, c4, l4, p4]⟩
  · obtain ⟨k, k1, k2, -⟩ := he
    omega
end PRT
