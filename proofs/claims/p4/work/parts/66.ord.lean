/-! grown operators: closed; their rows put in order -/
section ORD
theorem pm_rg_ex {τ : pm_H} {q : Nat} {a b b' lo hi : Int} (h : pm_rg τ q a b lo hi) (hv : lo ≤ τ q b ∧ τ q b ≤ hi) (hb : b' = b + 1) : pm_rg τ q a b' lo hi := by
  subst hb
  intro k k1 k2
  by_cases e : k = b
  · rw [e]
    exact hv
  · exact h k k1 (by omega)
theorem pm_BF_af {τ ρ : pm_H} {n m k g : Int} (h : pm_BF τ n m k g) (hok : pm_gok τ n) (hk : 0 ≤ k ∧ k < m) (hg : 0 ≤ g ∧ g < n) (e1 : ρ 81 = τ 81) (e2 : ρ 82 = τ 82) (hq : pm_er ρ 85 0 12 (pm_af (τ 81) (12 * g) (τ 82) (12 * k))) : pm_o (ρ 85) 0 = pm_mul (pm_o (ρ 81) (12 * g)) (pm_o (ρ 82) (12 * k)) := by
  rw [e1, e2]
  exact pm_af_o (pm_sz_md (pm_gok_md hok hg.1 hg.2)) (pm_sz_md (h.md k hk.1 hk.2)) hq
/-- the rows of 'grown' are closed -/
def pm_Sg (τ : pm_H) (m : Int) : Prop := (∀ i : Int, 0 ≤ i → i < m → pm_md (pm_o (τ 82) (12 * i))) ∧ (∃ i : Int, 0 ≤ i ∧ i < m ∧ pm_o (τ 82) (12 * i) = pm_e) ∧ (∀ i j : Int, 0 ≤ i → i < j → j < m → pm_o (τ 82) (12 * i) ≠ pm_o (τ 82) (12 * j)) ∧ (∀ i j : Int, 0 ≤ i → i < m → 0 ≤ j → j < m → ∃ k : Int, 0 ≤ k ∧ k < m ∧ pm_o (τ 82) (12 * k) = pm_mul (pm_o (τ 82) (12 * i)) (pm_o (τ 82) (12 * j)))
theorem pm_Sg.md {τ : pm_H} {m : Int} (h : pm_Sg τ m) : ∀ i : Int, 0 ≤ i → i < m → pm_md (pm_o (τ 82) (12 * i)) := h.1
theorem pm_Sg.ee {τ : pm_H} {m : Int} (h : pm_Sg τ m) : ∃ i : Int, 0 ≤ i ∧ i < m ∧ pm_o (τ 82) (12 * i) = pm_e := h.2.1
theorem pm_Sg.ne {τ : pm_H} {m : Int} (h : pm_Sg τ m) : ∀ i j : Int, 0 ≤ i → i < j → j < m → pm_o (τ 82) (12 * i) ≠ pm_o (τ 82) (12 * j) := h.2.2.1
theorem pm_Sg.cl {τ : pm_H} {m : Int} (h : pm_Sg τ m) : ∀ i j : Int, 0 ≤ i → i < m → 0 ≤ j → j < m → ∃ k : Int, 0 ≤ k ∧ k < m ∧ pm_o (τ 82) (12 * k) = pm_mul (pm_o (τ 82) (12 * i)) (pm_o (τ 82) (12 * j)) := h.2.2.2
theorem pm_BF_Sg {τ : pm_H} {n m k g : Int} (h : pm_BF τ n m k g) (hk : m ≤ k) (hm : 1 ≤ m) : pm_Sg τ m :=
  ⟨h.md, ⟨0, by omega, by omega, h.ee⟩, h.ne, fun i j i1 i2 j1 j2 => pm_BF_cl h hk _ _ (h.gn i i1 i2) ⟨j, j1, j2, rfl⟩⟩
/-- a row of 'grown' -/
def pm_rw (τ : pm_H) (k : Int) : Int → Int := fun j => τ 82 (12 * k + j)
theorem pm_rw_o (τ : pm_H) (k : Int) : pm_o (pm_rw τ k) 0 = pm_o (τ 82) (12 * k) := pm_o_congr (fun j _ _ => by
  unfold pm_rw
  rw [Int.zero_add])
theorem pm_lt_not {f g : Int → Int} {i : Int} (h1 : 0 ≤ i) (h2 : i < 12) (h3 : ∀ j : Int, 0 ≤ j → j < i → f j = g j) (h4 : g i ≤ f i) (h5 : ¬ f i = g i) : ¬ pm_lt f g := fun h => pm_lt_irr (pm_lt_tr h ⟨i, h1, h2, fun j j1 j2 => (h3 j j1 j2).symm, by omega⟩) (fun _ _ _ => rfl)
theorem pm_lt_cg {f g f' g' : Int → Int} (h : pm_lt f g) (e1 : ∀ j : Int, 0 ≤ j → j < 12 → f' j = f j) (e2 : ∀ j : Int, 0 ≤ j → j < 12 → g' j = g j) : pm_lt f' g' := by
  obtain ⟨i, h1, h2, h3, h4⟩ := h
  exact ⟨i, h1, h2, fun j j1 j2 => by rw [e1 j j1 (by omega), e2 j j1 (by omega)]; exact h3 j j1 j2, by rw [e1 i h1 h2, e2 i h1 h2]; exact h4⟩
def pm_se (σ : pm_H) (a b n : Int) : Prop := ∀ j : Int, 0 ≤ j → j < n → pm_rw σ a j = pm_rw σ b j
theorem pm_se_0 {σ : pm_H} {a b n : Int} (h : n ≤ 0) : pm_se σ a b n := fun j _ _ => by omega
theorem pm_se_s {σ : pm_H} {a b n n' : Int} (h : pm_se σ a b n) (e : σ 82 (12 * a + n) = σ 82 (12 * b + n)) (hn : n' = n + 1) : pm_se σ a b n' := by
  subst hn
  intro j h1 h2
  by_cases hj : j = n
  · subst hj
    exact e
  · exact h j h1 (by omega)
/-- two rows exchanged, up to number n -/
def pm_xc (σ τ : pm_H) (a b n : Int) : Prop := (∀ j : Int, 0 ≤ j → j < n → τ 82 (12 * a + j) = σ 82 (12 * b + j) ∧ τ 82 (12 * b + j) = σ 82 (12 * a + j)) ∧ ∀ q : Int, (∀ j : Int, 0 ≤ j → j < n → q ≠ 12 * a + j ∧ q ≠ 12 * b + j) → τ 82 q = σ 82 q
theorem pm_xc_0 {σ τ : pm_H} {a b n : Int} (h : n ≤ 0) (e : τ 82 = σ 82) : pm_xc σ τ a b n := ⟨fun j _ _ => by omega, fun q _ => by rw [e]⟩
theorem pm_xc_s {σ τ : pm_H} {a b n n' : Int} (h : pm_xc σ τ a b n) (hab : a ≠ b) (h1 : 0 ≤ n ∧ n < 12) (hn : n' = n + 1) : pm_xc σ (pm_up (pm_up τ 82 (12 * a + n) (τ 82 (12 * b + n))) 82 (12 * b + n) (τ 82 (12 * a + n))) a b n' := by
  subst hn
  have ea : τ 82 (12 * a + n) = σ 82 (12 * a + n) := h.2 _ (fun j j1 j2 => by omega)
  have eb : τ 82 (12 * b + n) = σ 82 (12 * b + n) := h.2 _ (fun j j1 j2 => by omega)
  refine ⟨fun j j1 j2 => ?_, fun q hq => ?_⟩
  · by_cases hj : j = n
    · subst hj
      refine ⟨?_, ?_⟩
      · rw [pu_nei (by omega), pu_same, eb]
      · rw [pu_same, ea]
    · rw [pu_nei (by omega), pu_nei (by omega), pu_nei (by omega), pu_nei (by omega)]
      exact h.1 j j1 (by omega)
  · have := hq n (by omega) (by omega)
    rw [pu_nei this.2, pu_nei this.1]
    exact h.2 q (fun j j1 j2 => hq j j1 (by omega))
theorem pm_xc_a {σ τ : pm_H} {a b : Int} (h : pm_xc σ τ a b 12) (j : Int) (j1 : 0 ≤ j) (j2 : j < 12) : pm_rw τ a j = pm_rw σ b j := (h.1 j j1 j2).1
theorem pm_xc_b {σ τ : pm_H} {a b : Int} (h : pm_xc σ τ a b 12) (j : Int) (j1 : 0 ≤ j) (j2 : j < 12) : pm_rw τ b j = pm_rw σ a j := (h.1 j j1 j2).2
theorem pm_xc_c {σ τ : pm_H} {a b k : Int} (h : pm_xc σ τ a b 12) (ha : k ≠ a) (hb : k ≠ b) (j : Int) (j1 : 0 ≤ j) (j2 : j < 12) : pm_rw τ k j = pm_rw σ k j := h.2 _ (fun i i1 i2 => by omega)
/-- the same rows in another order -/
def pm_pe (σ τ : pm_H) (m : Int) : Prop := (∀ k : Int, 0 ≤ k → k < m → ∃ i : Int, 0 ≤ i ∧ i < m ∧ pm_o (τ 82) (12 * k) = pm_o (σ 82) (12 * i)) ∧ (∀ i : Int, 0 ≤ i → i < m → ∃ k : Int, 0 ≤ k ∧ k < m ∧ pm_o (τ 82) (12 * k) = pm_o (σ 82) (12 * i))
def pm_di (τ : pm_H) (m : Int) : Prop := ∀ i j : Int, 0 ≤ i → i < j → j < m → pm_o (τ 82) (12 * i) ≠ pm_o (τ 82) (12 * j)
theorem pm_pe_rf {σ : pm_H} {m : Int} : pm_pe σ σ m := ⟨fun k k1 k2 => ⟨k, k1, k2, rfl⟩, fun k k1 k2 => ⟨k, k1, k2, rfl⟩⟩
theorem pm_xc_r {σ τ : pm_H} {a b : Int} (h : pm_xc σ τ a b 12) : pm_o (τ 82) (12 * a) = pm_o (σ 82) (12 * b) ∧ pm_o (τ 82) (12 * b) = pm_o (σ 82) (12 * a) ∧ ∀ k : Int, k ≠ a → k ≠ b → pm_o (τ 82) (12 * k) = pm_o (σ 82) (12 * k) :=
  ⟨pm_o_congr (pm_xc_a h), pm_o_congr (pm_xc_b h), fun k ka kb => pm_o_congr (pm_xc_c h ka kb)⟩
theorem pm_pe_xc {σ τ ρ : pm_H} {m a b : Int} (h : pm_pe σ τ m) (hx : pm_xc τ ρ a b 12) (ha : 0 ≤ a ∧ a < m) (hb : 0 ≤ b ∧ b < m) : pm_pe σ ρ m := by
  obtain ⟨r1, r2, r3⟩ := pm_xc_r hx
  refine ⟨fun k k1 k2 => ?_, fun i i1 i2 => ?_⟩
  · by_cases e1 : k = a
    · rw [e1, r1]
      exact h.1 b hb.1 hb.2
    · by_cases e2 : k = b
      · rw [e2, r2]
        exact h.1 a ha.1 ha.2
      · rw [r3 k e1 e2]
        exact h.1 k k1 k2
  · obtain ⟨k, k1, k2, k3⟩ := h.2 i i1 i2
    by_cases e1 : k = a
    · exact ⟨b, hb.1, hb.2, by rw [r2, ← e1]; exact k3⟩
    · by_cases e2 : k = b
      · exact ⟨a, ha.1, ha.2, by rw [r1, ← e2]; exact k3⟩
      · exact ⟨k, k1, k2, by rw [r3 k e1 e2]; exact k3⟩
theorem pm_di_any {τ : pm_H} {m : Int} (h : pm_di τ m) {i j : Int} (i1 : 0 ≤ i ∧ i < m) (j1 : 0 ≤ j ∧ j < m) (hij : i ≠ j) : pm_o (τ 82) (12 * i) ≠ pm_o (τ 82) (12 * j) := by
  by_cases hl : i < j
  · exact h i j i1.1 hl j1.2
  · exact fun e => h j i j1.1 (by omega) i1.2 e.symm
theorem pm_di_xc {τ ρ : pm_H} {m a b : Int} (h : pm_di τ m) (hx : pm_xc τ ρ a b 12) (ha : 0 ≤ a ∧ a < m) (hb : 0 ≤ b ∧ b < m) : pm_di ρ m := by
  obtain ⟨r1, r2, r3⟩ := pm_xc_r hx
  have key : ∀ k : Int, 0 ≤ k → k < m → ∃ i : Int, (0 ≤ i ∧ i < m) ∧ pm_o (ρ 82) (12 * k) = pm_o (τ 82) (12 * i) ∧ (k = a → i = b) ∧ (k ≠ a → k = b → i = a) ∧ (k ≠ a → k ≠ b → i = k) := by
    intro k k1 k2
    by_cases e1 : k = a
    · exact ⟨b, hb, by rw [e1, r1], fun _ => rfl, fun z => absurd e1 z, fun z => absurd e1 z⟩
    · by_cases e2 : k = b
      · exact ⟨a, ha, by rw [e2, r2], fun z => absurd z e1, fun _ _ => rfl, fun _ z => absurd e2 z⟩
      · exact ⟨k, ⟨k1, k2⟩, r3 k e1 e2, fun z => absurd z e1, fun _ z => absurd z e2, fun _ _ => rfl⟩
  intro i j i1 i2 i3
  obtain ⟨i', p1, p2, p3, p4, p5⟩ := key i i1 (by omega)
  obtain ⟨j', q1, q2, q3, q4, q5⟩ := key j (by omega) i3
  rw [p2, q2]
  exact pm_di_any h p1 q1 (by omega)
/-- in order ahead of n -/
def pm_so (τ : pm_H) (n : Int) : Prop := ∀ i j : Int, 0 ≤ i → i < j → j < n → pm_lt (pm_rw τ i) (pm_rw τ j)
theorem pm_so_1 {τ : pm_H} {n : Int} (h : n ≤ 1) : pm_so τ n := fun i j _ _ _ => by omega
/-- in order ahead of n, but for row k, which lies ahead of all behind it -/
def pm_sx (τ : pm_H) (n k : Int) : Prop := (∀ i j : Int, 0 ≤ i → i < j → j < n → i ≠ k → j ≠ k → pm_lt (pm_rw τ i) (pm_rw τ j)) ∧ ∀ j : Int, k < j → j < n → pm_lt (pm_rw τ k) (pm_rw τ j)
theorem pm_sx_0 {τ : pm_H} {n n' : Int} (h : pm_so τ n) (hn : n' = n + 1) : pm_sx τ n' n := by
  subst hn
  exact ⟨fun i j i1 i2 i3 i4 i5 => h i j i1 i2 (by omega), fun j j1 j2 => by omega⟩
theorem pm_sx_e {τ : pm_H} {n k : Int} (h : pm_sx τ n k) (hk : k ≤ 0) : pm_so τ n := by
  intro i j i1 i2 i3
  by_cases e : i = k
  · rw [e]
    exact h.2 j (by omega) i3
  · exact h.1 i j i1 i2 i3 e (by omega)
theorem pm_sx_f {τ : pm_H} {n m k k' : Int} (h : pm_sx τ n k) (hd : pm_di τ m) (hn : n ≤ m) (hk : 0 < k ∧ k < n) (hk' : k' = k - 1) (hl : ¬ pm_lt (pm_rw τ k) (pm_rw τ k')) : pm_so τ n := by
  subst hk'
  have h1 : pm_lt (pm_rw τ (k - 1)) (pm_rw τ k) := by
    rcases pm_lt_tot (pm_rw τ (k - 1)) (pm_rw τ k) with z | z | z
    · exact z
    · exact absurd z hl
    · exact absurd (by
        rw [← pm_rw_o, ← pm_rw_o]
        exact pm_o_congr (fun j j1 j2 => by rw [Int.zero_add]; exact z j j1 j2)) (hd (k - 1) k (by omega) (by omega) (by omega))
  intro i j i1 i2 i3
  by_cases e : i = k
  · rw [e]
    exact h.2 j (by omega) i3
  · by_cases e2 : j = k
    · rw [e2]
      by_cases e3 : i = k - 1
      · rw [e3]
        exact h1
      · exact pm_lt_tr (h.1 i (k - 1) i1 (by omega) (by omega) e (by omega)) h1
    · exact h.1 i j i1 i2 i3 e e2
theorem pm_sx_x {τ ρ : pm_H} {n k k' : Int} (h : pm_sx τ n k) (hx : pm_xc τ ρ k k' 12) (hk : 0 < k ∧ k < n) (hk' : k' = k - 1) (hl : pm_lt (pm_rw τ k) (pm_rw τ k')) : pm_sx ρ n k' := by
  subst hk'
  have ra := pm_xc_a hx
  have rb := pm_xc_b hx
  have rc : ∀ i : Int, i ≠ k → i ≠ k - 1 → ∀ j : Int, 0 ≤ j → j < 12 → pm_rw ρ i j = pm_rw τ i j := fun i i1 i2 => pm_xc_c hx i1 i2
  refine ⟨fun i j i1 i2 i3 i4 i5 => ?_, fun j j1 j2 => ?_⟩
  · by_cases e : i = k
    · subst e
      exact pm_lt_cg (h.1 (i - 1) j (by omega) (by omega) i3 (by omega) (by omega)) ra (rc j (by omega) i5)
    · by_cases e2 : j = k
      · subst e2
        exact pm_lt_cg (h.1 i (j - 1) i1 (by omega) (by omega) e (by omega)) (rc i e i4) ra
      · exact pm_lt_cg (h.1 i j i1 i2 i3 e e2) (rc i e i4) (rc j e2 i5)
  · by_cases e : j = k
    · subst e
      exact pm_lt_cg hl rb ra
    · exact pm_lt_cg (h.2 j (by omega) j2) rb (rc j e (by omega))
/-- rows of slot s -/
def pm_rk (τ : pm_H) (s : Int) : Int → Int → Int := fun k j => τ 86 (4608 * s + 12 * k + j)
theorem pm_Sg_pe {σ τ : pm_H} {m : Int} (h : pm_Sg σ m) (hp : pm_pe σ τ m) (hd : pm_di τ m) : pm_Sg τ m := by
  refine ⟨fun i i1 i2 => ?_, ?_, hd, fun i j i1 i2 j1 j2 => ?_⟩
  · obtain ⟨k, k1, k2, k3⟩ := hp.1 i i1 i2
    rw [k3]
    exact h.md k k1 k2
  · obtain ⟨i, i1, i2, i3⟩ := h.ee
    obtain ⟨k, k1, k2, k3⟩ := hp.2 i i1 i2
    exact ⟨k, k1, k2, by rw [k3]; exact i3⟩
  · obtain ⟨a, a1, a2, a3⟩ := hp.1 i i1 i2
    obtain ⟨b, b1, b2, b3⟩ := hp.1 j j1 j2
    obtain ⟨c, c1, c2, c3⟩ := h.cl a b a1 a2 b1 b2
    obtain ⟨k, k1, k2, k3⟩ := hp.2 c c1 c2
    exact ⟨k, k1, k2, by rw [k3, a3, b3]; exact c3⟩
/-- ordered and kept: a group in the slot -/
theorem pm_Gr_of {σ τ : pm_H} {m s : Int} (h : pm_Sg σ m) (ho : pm_so σ m) (h1 : 1 ≤ m ∧ m ≤ 384) (e : pm_er τ 86 (4608 * s) (4608 * s + 12 * m) (fun q => σ 82 (q - 4608 * s))) : pm_Gr (pm_rk τ s) m := by
  have r : ∀ k : Int, 0 ≤ k → k < m → ∀ j : Int, 0 ≤ j → j < 12 → pm_rk τ s k j = pm_rw σ k j := fun k k1 k2 j j1 j2 => by
    unfold pm_rk pm_rw
    rw [e _ (by omega) (by omega)]
    show σ 82 (4608 * s + 12 * k + j - 4608 * s) = σ 82 (12 * k + j)
    congr 1
    omega
  have ro : ∀ k : Int, 0 ≤ k → k < m → pm_o (pm_rk τ s k) 0 = pm_o (σ 82) (12 * k) := fun k k1 k2 => by
    rw [← pm_rw_o]
    exact pm_o_congr (fun j j1 j2 => by rw [Int.zero_add]; exact r k k1 k2 j j1 j2)
  refine fun _ => ⟨h1.1, h1.2, fun k k1 k2 => by rw [ro k k1 k2]; exact h.md k k1 k2, fun i j i1 i2 i3 => pm_lt_cg (ho i j i1 i2 i3) (r i i1 (by omega)) (r j (by omega) i3), ?_, fun i j i1 i2 j1 j2 => ?_⟩
  · obtain ⟨i, i1, i2, i3⟩ := h.ee
    exact ⟨i, i1, i2, by rw [ro i i1 i2]; exact i3⟩
  · obtain ⟨k, k1, k2, k3⟩ := h.cl i j i1 i2 j1 j2
    exact ⟨k, k1, k2, by rw [ro k k1 k2, ro i i1 i2, ro j j1 j2]; exact k3⟩
/-- all slots that have a group have one -/
def pm_SL (τ : pm_H) : Prop := ∀ s : Int, 0 ≤ s → s < 6 → ¬ τ 88 s = 0 → pm_Gr (pm_rk τ s) (τ 87 s)
theorem pm_SL_eq {σ τ : pm_H} (h : pm_SL σ) (e1 : τ 86 = σ 86) (e2 : τ 87 = σ 87) (e3 : τ 88 = σ 88) : pm_SL τ := by
  unfold pm_SL pm_rk
  rw [e1, e2, e3]
  exact h
end ORD
