/-! the reckoned product of modest operators; what the growing of operators keeps -/
section GROW
theorem pm_af_k {A B : Int → Int} {i j k p0 p1 p2 q0 q1 q2 : Int} (hk : k < 9) (h0 : p0 = i + 3 * (k / 3)) (h1 : p1 = i + 3 * (k / 3) + 1) (h2 : p2 = i + 3 * (k / 3) + 2) (g0 : q0 = j + k % 3) (g1 : q1 = j + 3 + k % 3) (g2 : q2 = j + 6 + k % 3) : pm_af A i B j k = w32 (A p0 * B q0 + A p1 * B q1 + A p2 * B q2) := by
  subst h0 h1 h2 g0 g1 g2
  unfold pm_af
  rw [if_pos hk]
theorem pm_af_l {A B : Int → Int} {i j k p0 p1 p2 p3 : Int} (hk : ¬ k < 9) (h0 : p0 = i + 3 * (k - 9)) (h1 : p1 = i + 3 * (k - 9) + 1) (h2 : p2 = i + 3 * (k - 9) + 2) (h3 : p3 = i + 9 + (k - 9)) : pm_af A i B j k = w32 (A p0 * B (j + 9) + A p1 * B (j + 10) + A p2 * B (j + 11) + A p3) % 24 := by
  subst h0 h1 h2 h3
  unfold pm_af
  rw [if_neg hk]
theorem pm_w3 {a b c d e f : Int} (ha : -999 ≤ a ∧ a ≤ 999) (hb : -999 ≤ b ∧ b ≤ 999) (hc : -999 ≤ c ∧ c ≤ 999) (hd : -999 ≤ d ∧ d ≤ 999) (he : -999 ≤ e ∧ e ≤ 999) (hf : -999 ≤ f ∧ f ≤ 999) : w32 (a * b + c * d + e * f) = a * b + c * d + e * f := by
  have h1 := mul_ab (A := 999) (B := 999) ha hb
  have h2 := mul_ab (A := 999) (B := 999) hc hd
  have h3 := mul_ab (A := 999) (B := 999) he hf
  exact w32_id (by omega)
theorem pm_w4 {a b c d e f g : Int} (ha : -999 ≤ a ∧ a ≤ 999) (hb : -999 ≤ b ∧ b ≤ 999) (hc : -999 ≤ c ∧ c ≤ 999) (hd : -999 ≤ d ∧ d ≤ 999) (he : -999 ≤ e ∧ e ≤ 999) (hf : -999 ≤ f ∧ f ≤ 999) (hg : -999 ≤ g ∧ g ≤ 999) : w32 (a * b + c * d + e * f + g) = a * b + c * d + e * f + g := by
  have h1 := mul_ab (A := 999) (B := 999) ha hb
  have h2 := mul_ab (A := 999) (B := 999) hc hd
  have h3 := mul_ab (A := 999) (B := 999) he hf
  exact w32_id (by omega)
/-- twelve numbers of three digits -/
def pm_sz (f : Int → Int) (b : Int) : Prop := ∀ k : Int, 0 ≤ k → k < 12 → -999 ≤ f (b + k) ∧ f (b + k) ≤ 999
theorem pm_sz_0 {f : Int → Int} {b : Int} (h : pm_sz f b) : -999 ≤ f b ∧ f b ≤ 999 := by
  have := h 0 (by omega) (by omega)
  rw [Int.add_zero] at this
  exact this
theorem pm_af_o {f A B : Int → Int} {i j : Int} (hA : pm_sz A i) (hB : pm_sz B j) (h : ∀ k : Int, 0 ≤ k → k < 12 → f k = pm_af A i B j k) : pm_o f 0 = pm_mul (pm_o A i) (pm_o B j) := by
  have e0 := pm_af_k (A := A) (B := B) (i := i) (j := j) (k := 0) (p0 := i) (p1 := i + 1) (p2 := i + 2) (q0 := j) (q1 := j + 3) (q2 := j + 6) (by omega) (by omega) (by omega) (by omega) (by omega) (by omega) (by omega)
  rw [← h 0 (by omega) (by omega), pm_w3 (pm_sz_0 hA) (pm_sz_0 hB) (hA 1 (by omega) (by omega)) (hB 3 (by omega) (by omega)) (hA 2 (by omega) (by omega)) (hB 6 (by omega) (by omega))] at e0
  have e1 := pm_af_k (A := A) (B := B) (i := i) (j := j) (k := 1) (p0 := i) (p1 := i + 1) (p2 := i + 2) (q0 := j + 1) (q1 := j + 4) (q2 := j + 7) (by omega) (by omega) (by omega) (by omega) (by omega) (by omega) (by omega)
  rw [← h 1 (by omega) (by omega), pm_w3 (pm_sz_0 hA) (hB 1 (by omega) (by omega)) (hA 1 (by omega) (by omega)) (hB 4 (by omega) (by omega)) (hA 2 (by omega) (by omega)) (hB 7 (by omega) (by omega))] at e1
  have e2 := pm_af_k (A := A) (B := B) (i := i) (j := j) (k := 2) (p0 := i) (p1 := i + 1) (p2 := i + 2) (q0 := j + 2) (q1 := j + 5) (q2 := j + 8) (by omega) (by omega) (by omega) (by omega) (by omega) (by omega) (by omega)
  rw [← h 2 (by omega) (by omega), pm_w3 (pm_sz_0 hA) (hB 2 (by omega) (by omega)) (hA 1 (by omega) (by omega)) (hB 5 (by omega) (by omega)) (hA 2 (by omega) (by omega)) (hB 8 (by omega) (by omega))] at e2
  have e3 := pm_af_k (A := A) (B := B) (i := i) (j := j) (k := 3) (p0 := i + 3) (p1 := i + 4) (p2 := i + 5) (q0 := j) (q1 := j + 3) (q2 := j + 6) (by omega) (by omega) (by omega) (by omega) (by omega) (by omega) (by omega)
  rw [← h 3 (by omega) (by omega), pm_w3 (hA 3 (by omega) (by omega)) (pm_sz_0 hB) (hA 4 (by omega) (by omega)) (hB 3 (by omega) (by omega)) (hA 5 (by omega) (by omega)) (hB 6 (by omega) (by omega))] at e3
  have e4 := pm_af_k (A := A) (B := B) (i := i) (j := j) (k := 4) (p0 := i + 3) (p1 := i + 4) (p2 := i + 5) (q0 := j + 1) (q1 := j + 4) (q2 := j + 7) (by omega) (by omega) (by omega) (by omega) (by omega) (by omega) (by omega)
  rw [← h 4 (by omega) (by omega), pm_w3 (hA 3 (by omega) (by omega)) (hB 1 (by omega) (by omega)) (hA 4 (by omega) (by omega)) (hB 4 (by omega) (by omega)) (hA 5 (by omega) (by omega)) (hB 7 (by omega) (by omega))] at e4
  have e5 := pm_af_k (A := A) (B := B) (i := i) (j := j) (k := 5) (p0 := i + 3) (p1 := i + 4) (p2 := i + 5) (q0 := j + 2) (q1 := j + 5) (q2 := j + 8) (by omega) (by omega) (by omega) (by omega) (by omega) (by omega) (by omega)
  rw [← h 5 (by omega) (by omega), pm_w3 (hA 3 (by omega) (by omega)) (hB 2 (by omega) (by omega)) (hA 4 (by omega) (by omega)) (hB 5 (by omega) (by omega)) (hA 5 (by omega) (by omega)) (hB 8 (by omega) (by omega))] at e5
  have e6 := pm_af_k (A := A) (B := B) (i := i) (j := j) (k := 6) (p0 := i + 6) (p1 := i + 7) (p2 := i + 8) (q0 := j) (q1 := j + 3) (q2 := j + 6) (by omega) (by omega) (by omega) (by omega) (by omega) (by omega) (by omega)
  rw [← h 6 (by omega) (by omega), pm_w3 (hA 6 (by omega) (by omega)) (pm_sz_0 hB) (hA 7 (by omega) (by omega)) (hB 3 (by omega) (by omega)) (hA 8 (by omega) (by omega)) (hB 6 (by omega) (by omega))] at e6
  have e7 := pm_af_k (A := A) (B := B) (i := i) (j := j) (k := 7) (p0 := i + 6) (p1 := i + 7) (p2 := i + 8) (q0 := j + 1) (q1 := j + 4) (q2 := j + 7) (by omega) (by omega) (by omega) (by omega) (by omega) (by omega) (by omega)
  rw [← h 7 (by omega) (by omega), pm_w3 (hA 6 (by omega) (by omega)) (hB 1 (by omega) (by omega)) (hA 7 (by omega) (by omega)) (hB 4 (by omega) (by omega)) (hA 8 (by omega) (by omega)) (hB 7 (by omega) (by omega))] at e7
  have e8 := pm_af_k (A := A) (B := B) (i := i) (j := j) (k := 8) (p0 := i + 6) (p1 := i + 7) (p2 := i + 8) (q0 := j + 2) (q1 := j + 5) (q2 := j + 8) (by omega) (by omega) (by omega) (by omega) (by omega) (by omega) (by omega)
  rw [← h 8 (by omega) (by omega), pm_w3 (hA 6 (by omega) (by omega)) (hB 2 (by omega) (by omega)) (hA 7 (by omega) (by omega)) (hB 5 (by omega) (by omega)) (hA 8 (by omega) (by omega)) (hB 8 (by omega) (by omega))] at e8
  have e9 := pm_af_l (A := A) (B := B) (i := i) (j := j) (k := 9) (p0 := i) (p1 := i + 1) (p2 := i + 2) (p3 := i + 9) (by omega) (by omega) (by omega) (by omega) (by omega)
  rw [← h 9 (by omega) (by omega), pm_w4 (pm_sz_0 hA) (hB 9 (by omega) (by omega)) (hA 1 (by omega) (by omega)) (hB 10 (by omega) (by omega)) (hA 2 (by omega) (by omega)) (hB 11 (by omega) (by omega)) (hA 9 (by omega) (by omega))] at e9
  have e10 := pm_af_l (A := A) (B := B) (i := i) (j := j) (k := 10) (p0 := i + 3) (p1 := i + 4) (p2 := i + 5) (p3 := i + 10) (by omega) (by omega) (by omega) (by omega) (by omega)
  rw [← h 10 (by omega) (by omega), pm_w4 (hA 3 (by omega) (by omega)) (hB 9 (by omega) (by omega)) (hA 4 (by omega) (by omega)) (hB 10 (by omega) (by omega)) (hA 5 (by omega) (by omega)) (hB 11 (by omega) (by omega)) (hA 10 (by omega) (by omega))] at e10
  have e11 := pm_af_l (A := A) (B := B) (i := i) (j := j) (k := 11) (p0 := i + 6) (p1 := i + 7) (p2 := i + 8) (p3 := i + 11) (by omega) (by omega) (by omega) (by omega) (by omega)
  rw [← h 11 (by omega) (by omega), pm_w4 (hA 6 (by omega) (by omega)) (hB 9 (by omega) (by omega)) (hA 7 (by omega) (by omega)) (hB 10 (by omega) (by omega)) (hA 8 (by omega) (by omega)) (hB 11 (by omega) (by omega)) (hA 11 (by omega) (by omega))] at e11
  exact pm_O.ext e0 e1 e2 e3 e4 e5 e6 e7 e8 e9 e10 e11
theorem pm_sz_md {f : Int → Int} {b : Int} (h : pm_md (pm_o f b)) : pm_sz f b := by
  obtain ⟨h1, ⟨h2, h3, h4⟩, h5⟩ := h
  simp only [pm_o_0, pm_o_1, pm_o_2, pm_o_3, pm_o_4, pm_o_5, pm_o_6, pm_o_7, pm_o_8, pm_o_9, pm_o_10, pm_o_11] at h1 h2 h3 h4
  intro k k1 k2
  have : k = 0 ∨ k = 1 ∨ k = 2 ∨ k = 3 ∨ k = 4 ∨ k = 5 ∨ k = 6 ∨ k = 7 ∨ k = 8 ∨ k = 9 ∨ k = 10 ∨ k = 11 := by omega
  rcases this with e | e | e | e | e | e | e | e | e | e | e | e <;> subst e
  · rw [Int.add_zero]
    exact h1 _ (Or.inl rfl)
  all_goals (first | omega | exact h1 _ (by simp))
theorem pm_md_of {f : Int → Int} {b : Int} (h1 : ∀ k : Int, 0 ≤ k → k < 9 → -999 ≤ f (b + k) ∧ f (b + k) ≤ 999) (h2 : pm_red (pm_o f b)) (h3 : pm_unit (pm_o f b)) : pm_md (pm_o f b) := by
  refine ⟨fun k hk => ?_, h2, h3⟩
  simp only [pm_o_0, pm_o_1, pm_o_2, pm_o_3, pm_o_4, pm_o_5, pm_o_6, pm_o_7, pm_o_8] at hk
  rcases hk with e | e | e | e | e | e | e | e | e <;> subst e
  · have := h1 0 (by omega) (by omega)
    rw [Int.add_zero] at this
    exact this
  all_goals (exact h1 _ (by omega) (by omega))
theorem pm_dt_o (f : Int → Int) (b : Int) : pm_dt (pm_o f b) = pm_det f b := rfl
/-- a generator is modest -/
theorem pm_gok_md {τ : pm_H} {n g : Int} (h : pm_gok τ n) (g1 : 0 ≤ g) (g2 : g < n) : pm_md (pm_o (τ 81) (12 * g)) := by
  obtain ⟨a1, a2, a3⟩ := h g g1 g2
  refine pm_md_of (fun k k1 k2 => ?_) ?_ ?_
  · have := a1 k k1 k2
    omega
  · exact ⟨a2 9 (by omega) (by omega), a2 10 (by omega) (by omega), a2 11 (by omega) (by omega)⟩
  · unfold pm_unit
    rw [pm_dt_o]
    exact a3
/-- what the generators make -/
def pm_Gn (S : pm_O → Prop) (x : pm_O) : Prop := ∀ P : pm_O → Prop, P pm_e → (∀ g y : pm_O, S g → P y → P (pm_mul g y)) → P x
theorem pm_Gn.e {S : pm_O → Prop} : pm_Gn S pm_e := fun P h _ => h
theorem pm_Gn.m {S : pm_O → Prop} {g x : pm_O} (hg : S g) (hx : pm_Gn S x) : pm_Gn S (pm_mul g x) := fun P h1 h2 => h2 g x hg (hx P h1 h2)
def pm_gset (τ : pm_H) (n : Int) : pm_O → Prop := fun x => ∃ g : Int, 0 ≤ g ∧ g < n ∧ x = pm_o (τ 81) (12 * g)
/-- the rows grown so far; the rows ahead of k, and k with the generators ahead of g, are done -/
def pm_BF (τ : pm_H) (n m k g : Int) : Prop := (∀ i : Int, 0 ≤ i → i < m → pm_md (pm_o (τ 82) (12 * i))) ∧ (∀ i : Int, 0 ≤ i → i < m → pm_Gn (pm_gset τ n) (pm_o (τ 82) (12 * i))) ∧ (pm_o (τ 82) (12 * 0) = pm_e) ∧ (∀ i j : Int, 0 ≤ i → i < j → j < m → pm_o (τ 82) (12 * i) ≠ pm_o (τ 82) (12 * j)) ∧ (∀ k' g' : Int, 0 ≤ k' → 0 ≤ g' → g' < n → (k' < k ∨ k' = k ∧ g' < g) → ∃ i : Int, 0 ≤ i ∧ i < m ∧ pm_o (τ 82) (12 * i) = pm_mul (pm_o (τ 81) (12 * g')) (pm_o (τ 82) (12 * k')))
theorem pm_BF.md {τ : pm_H} {n m k g : Int} (h : pm_BF τ n m k g) : ∀ i : Int, 0 ≤ i → i < m → pm_md (pm_o (τ 82) (12 * i)) := h.1
theorem pm_BF.gn {τ : pm_H} {n m k g : Int} (h : pm_BF τ n m k g) : ∀ i : Int, 0 ≤ i → i < m → pm_Gn (pm_gset τ n) (pm_o (τ 82) (12 * i)) := h.2.1
theorem pm_BF.ee {τ : pm_H} {n m k g : Int} (h : pm_BF τ n m k g) : pm_o (τ 82) (12 * 0) = pm_e := h.2.2.1
theorem pm_BF.ne {τ : pm_H} {n m k g : Int} (h : pm_BF τ n m k g) : ∀ i j : Int, 0 ≤ i → i < j → j < m → pm_o (τ 82) (12 * i) ≠ pm_o (τ 82) (12 * j) := h.2.2.2.1
theorem pm_BF.dn {τ : pm_H} {n m k g : Int} (h : pm_BF τ n m k g) : ∀ k' g' : Int, 0 ≤ k' → 0 ≤ g' → g' < n → (k' < k ∨ k' = k ∧ g' < g) → ∃ i : Int, 0 ≤ i ∧ i < m ∧ pm_o (τ 82) (12 * i) = pm_mul (pm_o (τ 81) (12 * g')) (pm_o (τ 82) (12 * k')) := h.2.2.2.2
theorem pm_id12_o {τ : pm_H} (h : pm_er τ 82 0 12 pm_id12) : pm_o (τ 82) (12 * 0) = pm_e := by
  have : pm_o (τ 82) (12 * 0) = pm_o pm_id12 0 := pm_o_congr (fun k k1 k2 => h _ (by omega) (by omega))
  rw [this]
  exact pm_O.ext (by decide) (by decide) (by decide) (by decide) (by decide) (by decide) (by decide) (by decide) (by decide) (by decide) (by decide) (by decide)
theorem pm_md_e : pm_md pm_e := by
  refine ⟨fun k hk => ?_, ?_, pm_unit_e⟩
  · simp only [pm_e_0, pm_e_1, pm_e_2, pm_e_3, pm_e_4, pm_e_5, pm_e_6, pm_e_7, pm_e_8] at hk
    omega
  · unfold pm_red
    simp only [pm_e_9, pm_e_10, pm_e_11]
    decide
theorem pm_BF_0 {τ : pm_H} {n m : Int} (h : pm_er τ 82 0 12 pm_id12) (hm : m = 1) : pm_BF τ n m 0 0 := by
  subst hm
  have e := pm_id12_o h
  have z : ∀ i : Int, 0 ≤ i → i < 1 → i = 0 := fun i _ _ => by omega
  refine ⟨fun i h1 h2 => ?_, fun i h1 h2 => ?_, e, fun i j h1 h2 h3 => by omega, fun k' g' h1 h2 h3 h4 => by omega⟩
  · rw [z i h1 h2, e]
    exact pm_md_e
  · rw [z i h1 h2, e]
    exact pm_Gn.e
theorem pm_BF_n {τ : pm_H} {n m k k' g : Int} (h : pm_BF τ n m k g) (hg : n ≤ g) (hk : k' = k + 1) : pm_BF τ n m k' 0 := by
  subst hk
  exact ⟨h.md, h.gn, h.ee, h.ne, fun k' g' h1 h2 h3 h4 => h.dn k' g' h1 h2 h3 (by omega)⟩
theorem pm_BF_eq {τ ρ : pm_H} {n n' m m' k g : Int} (h : pm_BF τ n m k g) (hn : n' = n) (hm : m' = m) (e1 : ρ 81 = τ 81) (e2 : ρ 82 = τ 82) : pm_BF ρ n' m' k g := by
  subst hn hm
  have e3 : pm_gset ρ n' = pm_gset τ n' := by
    unfold pm_gset
    rw [e1]
  exact ⟨by rw [e2]; exact h.md, by rw [e2, e3]; exact h.gn, by rw [e2]; exact h.ee, by rw [e2]; exact h.ne, by rw [e1, e2]; exact h.dn⟩
/-- the product stands there already -/
theorem pm_BF_s {τ : pm_H} {n m k g g' : Int} (h : pm_BF τ n m k g) (hp : pm_o (τ 85) 0 = pm_mul (pm_o (τ 81) (12 * g)) (pm_o (τ 82) (12 * k))) (hs : ∃ i : Int, 0 ≤ i ∧ i < m ∧ pm_sm τ i 12) (hg : g' = g + 1) : pm_BF τ n m k g' := by
  subst hg
  obtain ⟨i, i1, i2, i3⟩ := hs
  refine ⟨h.md, h.gn, h.ee, h.ne, fun k' g' h1 h2 h3 h4 => ?_⟩
  by_cases hc : k' < k ∨ k' = k ∧ g' < g
  · exact h.dn k' g' h1 h2 h3 hc
  · have hk : k' = k := by omega
    have hg : g' = g := by omega
    subst hk hg
    refine ⟨i, i1, i2, ?_⟩
    rw [← hp]
    exact pm_o_congr (fun j j1 j2 => by rw [Int.zero_add]; exact i3 j j1 j2)
/-- the product is put behind -/
theorem pm_BF_p {τ ρ : pm_H} {n m k g g' m' : Int} (h : pm_BF τ n m k g) (hok : pm_gok τ n) (hk : 0 ≤ k ∧ k < m) (hgn : 0 ≤ g ∧ g < n) (hp : pm_o (τ 85) 0 = pm_mul (pm_o (τ 81) (12 * g)) (pm_o (τ 82) (12 * k))) (hs : pm_ns τ m 12) (hz : ∀ i : Int, 0 ≤ i → i < 9 → -999 ≤ τ 85 i ∧ τ 85 i ≤ 999) (hg : g' = g + 1) (hm : m' = m + 1) (e1 : ρ 81 = τ 81) (p1 : pm_er ρ 82 0 (12 * m) (τ 82)) (p2 : pm_er ρ 82 (12 * m) (12 * m + 12) (fun j => τ 85 (j - 12 * m))) : pm_BF ρ n m' k g' := by
  subst hg hm
  have r1 : ∀ i : Int, 0 ≤ i → i < m → pm_o (ρ 82) (12 * i) = pm_o (τ 82) (12 * i) := fun i i1 i2 => pm_o_congr (fun j j1 j2 => p1 _ (by omega) (by omega))
  have r2 : pm_o (ρ 82) (12 * m) = pm_o (τ 85) 0 := pm_o_congr (fun j j1 j2 => by
    rw [p2 _ (by omega) (by omega)]
    show τ 85 (12 * m + j - 12 * m) = τ 85 (0 + j)
    congr 1
    omega)
  have e3 : pm_gset ρ n = pm_gset τ n := by
    unfold pm_gset
    rw [e1]
  have hmd : pm_md (pm_o (τ 85) 0) := pm_md_of (fun j j1 j2 => by rw [Int.zero_add]; exact hz j j1 j2) (by rw [hp]; exact pm_red_mul _ _) (by rw [hp]; exact pm_unit_mul (pm_gok_md hok hgn.1 hgn.2).2.2 (h.md k hk.1 hk.2).2.2)
  have hnew : ∀ i : Int, 0 ≤ i → i < m → pm_o (τ 82) (12 * i) ≠ pm_o (τ 85) 0 := fun i i1 i2 e => hs i i1 i2 (fun j j1 j2 => by
    have := pm_o_at e j j1 j2
    rw [Int.zero_add] at this
    exact this)
  refine ⟨fun i i1 i2 => ?_, fun i i1 i2 => ?_, ?_, fun i j i1 i2 i3 => ?_, fun k' g' h1 h2 h3 h4 => ?_⟩
  · by_cases hi : i = m
    · rw [hi, r2]
      exact hmd
    · rw [r1 i i1 (by omega)]
      exact h.md i i1 (by omega)
  · rw [e3]
    by_cases hi : i = m
    · rw [hi, r2, hp]
      exact pm_Gn.m ⟨g, hgn.1, hgn.2, rfl⟩ (h.gn k hk.1 hk.2)
    · rw [r1 i i1 (by omega)]
      exact h.gn i i1 (by omega)
  · rw [r1 0 (by omega) (by omega)]
    exact h.ee
  · rw [r1 i i1 (by omega)]
    by_cases hj : j = m
    · rw [hj, r2]
      exact hnew i i1 (by omega)
    · rw [r1 j (by omega) (by omega)]
      exact h.ne i j i1 i2 (by omega)
  · rw [e1]
    by_cases hc : k' < k ∨ k' = k ∧ g' < g
    · obtain ⟨i, i1, i2, i3⟩ := h.dn k' g' h1 h2 h3 hc
      refine ⟨i, i1, by omega, ?_⟩
      rw [r1 i i1 i2, r1 k' h1 (by omega)]
      exact i3
    · have hk' : k' = k := by omega
      have hg' : g' = g := by omega
      subst hk' hg'
      refine ⟨m, by omega, by omega, ?_⟩
      rw [r2, r1 k' h1 hk.2]
      exact hp
/-- all done: the rows are closed -/
theorem pm_BF_cl {τ : pm_H} {n m k g : Int} (h : pm_BF τ n m k g) (hk : m ≤ k) (x y : pm_O) (hx : pm_Gn (pm_gset τ n) x) (hy : ∃ j : Int, 0 ≤ j ∧ j < m ∧ pm_o (τ 82) (12 * j) = y) : ∃ i : Int, 0 ≤ i ∧ i < m ∧ pm_o (τ 82) (12 * i) = pm_mul x y := by
  refine hx (fun x => ∃ i : Int, 0 ≤ i ∧ i < m ∧ pm_o (τ 82) (12 * i) = pm_mul x y) ?_ ?_
  · obtain ⟨j, j1, j2, j3⟩ := hy
    refine ⟨j, j1, j2, ?_⟩
    rw [pm_e_mul (by rw [← j3]; exact (h.md j j1 j2).2.1)]
    exact j3
  · intro g x hg ih
    obtain ⟨i, i1, i2, i3⟩ := ih
    obtain ⟨g', g1, g2, g3⟩ := hg
    obtain ⟨l, l1, l2, l3⟩ := h.dn i g' i1 g1 g2 (Or.inl (by omega))
    refine ⟨l, l1, l2, ?_⟩
    rw [l3, i3, g3, pm_assoc]
end GROW
