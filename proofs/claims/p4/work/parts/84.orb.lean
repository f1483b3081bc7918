/-! the orbit: the identity's row leaves the point where it is -/
section ORB
def pv_oi (σ τ : pm_H) (s i m c : Int) : Prop := True → ∃ e : Int, (0 ≤ e ∧ e < σ 87 s) ∧ pm_o (σ 86) (4608 * s + 12 * e) = pm_e ∧ (e < i → 1 ≤ c ∧ pv_ms τ m (τ 107))
theorem pv_oi_0 {σ τ : pm_H} {s i m c : Int} (G : pm_Gr (pm_rk σ s) (σ 87 s)) (hi : i = 0) : pv_oi σ τ s i m c := by
  subst hi
  intro _
  obtain ⟨e, e1, e2, e3⟩ := G.ee
  rw [pm_rk_o] at e3
  exact ⟨e, ⟨e1, e2⟩, e3, fun z => by omega⟩
theorem pv_oi_e {σ τ : pm_H} {s i m c : Int} (h : pv_oi σ τ s i m c) (hi : σ 87 s ≤ i) : 1 ≤ c ∧ pv_ms τ m (τ 107) := by
  obtain ⟨e, e1, e2, e3⟩ := h trivial
  exact e3 (by omega)
/-- the numbers of 'moved' ahead of k, for the identity's row -/
def pv_om (σ τ : pm_H) (b k t : Int) : Prop := pm_o (σ 86) b = pm_e → t = 1 ∧ ∀ j : Int, 0 ≤ j → j < k → τ 108 j = τ 107 j
theorem pv_om_0 {σ τ : pm_H} {b : Int} : pv_om σ τ b 0 1 := fun _ => ⟨rfl, fun j _ _ => by omega⟩
theorem pv_mv {f p : Int → Int} {b k d n : Int} (h : pm_o f b = pm_e) (hk : 0 ≤ k ∧ k < 3) (hp : ∀ j : Int, 0 ≤ j → j < 3 → 0 ≤ p j ∧ p j ≤ n - 1) (hn : n ≤ 24000) : w32 (f (b + 3 * k) * p 0 + f (b + 3 * k + 1) * p 1 + f (b + 3 * k + 2) * p 2 + d * f (b + 9 + k)) % n = p k := by
  have h0 : f b = 1 := congrArg pm_O.a0 h
  have h1 : f (b + 1) = 0 := congrArg pm_O.a1 h
  have h2 : f (b + 2) = 0 := congrArg pm_O.a2 h
  have h3 : f (b + 3) = 0 := congrArg pm_O.a3 h
  have h4 : f (b + 4) = 1 := congrArg pm_O.a4 h
  have h5 : f (b + 5) = 0 := congrArg pm_O.a5 h
  have h6 : f (b + 6) = 0 := congrArg pm_O.a6 h
  have h7 : f (b + 7) = 0 := congrArg pm_O.a7 h
  have h8 : f (b + 8) = 1 := congrArg pm_O.a8 h
  have h9 : f (b + 9) = 0 := congrArg pm_O.a9 h
  have h10 : f (b + 10) = 0 := congrArg pm_O.a10 h
  have h11 : f (b + 11) = 0 := congrArg pm_O.a11 h
  have q := hp k hk.1 hk.2
  have key : f (b + 3 * k) * p 0 + f (b + 3 * k + 1) * p 1 + f (b + 3 * k + 2) * p 2 + d * f (b + 9 + k) = p k := by
    have : k = 0 ∨ k = 1 ∨ k = 2 := by omega
    rcases this with e | e | e <;> subst e
    · rw [show b + 3 * 0 = b by omega, show b + 9 + 0 = b + 9 by omega, h0, h1, h2, h9]
      omega
    · rw [show b + 3 * 1 = b + 3 by omega, show b + 3 + 1 = b + 4 by omega, show b + 3 + 2 = b + 5 by omega, show b + 9 + 1 = b + 10 by omega, h3, h4, h5, h10]
      omega
    · rw [show b + 3 * 2 = b + 6 by omega, show b + 6 + 1 = b + 7 by omega, show b + 6 + 2 = b + 8 by omega, show b + 9 + 2 = b + 11 by omega, h6, h7, h8, h11]
      omega
  rw [key, w32_id (by omega)]
  exact Int.emod_eq_of_lt q.1 (by omega)
theorem pv_om_s {σ τ : pm_H} {b k k' t t' d n v : Int} (h : pv_om σ τ b k t) (hk : 0 ≤ k ∧ k < 3) (hp : pm_rg τ 107 0 3 0 (n - 1)) (hn : n ≤ 24000) (e : τ 86 = σ 86) (hv : v = w32 (τ 86 (b + 3 * k) * τ 107 0 + τ 86 (b + 3 * k + 1) * τ 107 1 + τ 86 (b + 3 * k + 2) * τ 107 2 + d * τ 86 (b + 9 + k)) % n) (hk' : k' = k + 1) (ht : ¬ t = 0 → v = τ 107 k → t' = 1) : pv_om σ (pm_up τ 108 k v) b k' t' := by
  subst hk'
  intro z
  obtain ⟨h1, h2⟩ := h z
  have q : v = τ 107 k := by
    rw [hv, e]
    exact pv_mv z hk hp hn
  refine ⟨ht (by omega) q, fun j j1 j2 => ?_⟩
  rw [pu_ne (show 107 ≠ 108 by decide)]
  by_cases hj : j = k
  · rw [hj, pu_same, q]
  · rw [pu_nei hj]
    exact h2 j j1 (by omega)
def pv_oj (σ τ : pm_H) (s i m c t : Int) : Prop := True → ∃ e : Int, (0 ≤ e ∧ e < σ 87 s) ∧ pm_o (σ 86) (4608 * s + 12 * e) = pm_e ∧ (e < i → 1 ≤ c ∧ pv_ms τ m (τ 107)) ∧ (e = i → t = 1 ∧ pv_ms τ m (τ 107))
theorem pv_ms_cg {σ : pm_H} {m : Int} {f g : Int → Int} (h : pv_ms σ m f) (e : ∀ j : Int, 0 ≤ j → j < 3 → f j = g j) : pv_ms σ m g := by
  intro _
  obtain ⟨k, k1, k2, k3⟩ := h trivial
  exact ⟨k, k1, k2, fun j j1 j2 => by rw [k3 j j1 j2, e j j1 j2]⟩
theorem pv_oj_of {σ τ ρ : pm_H} {s i m m' c t k b : Int} (h : pv_oi σ τ s i m c) (hm : pv_om σ τ b k t) (hk : 3 ≤ k) (hb : b = 4608 * s + 12 * i) (p1 : pv_ms ρ m' (τ 108)) (p2 : pv_mo τ m ρ m') (e : ρ 107 = τ 107) : pv_oj σ ρ s i m' c t := by
  subst hb
  intro _
  obtain ⟨x, x1, x2, x3⟩ := h trivial
  refine ⟨x, x1, x2, fun z => ⟨(x3 z).1, by rw [e]; exact p2 _ (x3 z).2⟩, fun z => ?_⟩
  subst z
  obtain ⟨y1, y2⟩ := hm x2
  exact ⟨y1, by rw [e]; exact pv_ms_cg p1 (fun j j1 j2 => y2 j j1 (by omega))⟩
theorem pv_ms_eq {σ τ : pm_H} {m : Int} {f : Int → Int} (h : pv_ms σ m f) (e : τ 105 = σ 105) : pv_ms τ m f := by
  intro _
  obtain ⟨k, k1, k2, k3⟩ := h trivial
  exact ⟨k, k1, k2, fun j j1 j2 => by rw [e]; exact k3 j j1 j2⟩
theorem pv_oi_of {σ τ ρ : pm_H} {s i i' m m' c c' t : Int} (h : pv_oj σ τ s i m c t) (hi : i' = i + 1) (hm : m' = m) (hc : (¬ t = 1 ∧ c' = c) ∨ (c' = c + 1 ∧ 0 ≤ c)) (e1 : ρ 105 = τ 105) (e2 : ρ 107 = τ 107) : pv_oi σ ρ s i' m' c' := by
  subst hi hm
  intro _
  obtain ⟨x, x1, x2, x3, x4⟩ := h trivial
  refine ⟨x, x1, x2, fun z => ?_⟩
  by_cases hx : x = i
  · have y := x4 hx
    exact ⟨by omega, by rw [e2]; exact pv_ms_eq y.2 e1⟩
  · have y := x3 (by omega)
    exact ⟨by omega, by rw [e2]; exact pv_ms_eq y.2 e1⟩
/-- the point lies at place k or behind -/
def pv_mk (τ : pm_H) (k m : Int) : Prop := True → ∃ l : Int, k ≤ l ∧ l < m ∧ pv_pn τ l (τ 107) 3
theorem pv_mk_l {τ : pm_H} {k m : Int} (h : pv_mk τ k m) : k < m := by
  obtain ⟨l, l1, l2, l3⟩ := h trivial
  omega
theorem pv_mk_0 {τ ρ : pm_H} {m k m' : Int} (h : pv_ms τ m (τ 107)) (hk : k = 0) (hm : m' = m) (e1 : ρ 105 = τ 105) (e2 : ρ 107 = τ 107) : pv_mk ρ k m' := by
  subst hk hm
  intro _
  obtain ⟨l, l1, l2, l3⟩ := h trivial
  exact ⟨l, l1, l2, fun j j1 j2 => by rw [e1, e2]; exact l3 j j1 j2⟩
theorem pv_mk_s {τ ρ : pm_H} {k k' m m' : Int} (h : pv_mk τ k m) (hn : ¬ pv_pn τ k (τ 107) 3) (hk : k' = k + 1) (hm : m' = m) (e1 : ρ 105 = τ 105) (e2 : ρ 107 = τ 107) : pv_mk ρ k' m' := by
  subst hk hm
  intro _
  obtain ⟨l, l1, l2, l3⟩ := h trivial
  have : l ≠ k := fun z => hn (by rw [← z]; exact l3)
  exact ⟨l, by omega, l2, fun j j1 j2 => by rw [e1, e2]; exact l3 j j1 j2⟩
end ORB
