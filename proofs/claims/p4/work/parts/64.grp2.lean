section GRP2
theorem pm_colr {a : pm_O} {x y z x' y' z' k1 k2 k3 : Int} (q1 : a.a0 * x + a.a1 * y + a.a2 * z = a.a0 * x' + a.a1 * y' + a.a2 * z' + 24 * k1) (q2 : a.a3 * x + a.a4 * y + a.a5 * z = a.a3 * x' + a.a4 * y' + a.a5 * z' + 24 * k2) (q3 : a.a6 * x + a.a7 * y + a.a8 * z = a.a6 * x' + a.a7 * y' + a.a8 * z' + 24 * k3) : pm_dt a * x = pm_dt a * x' + 24 * ((a.a4 * a.a8 - a.a5 * a.a7) * k1 + (a.a2 * a.a7 - a.a1 * a.a8) * k2 + (a.a1 * a.a5 - a.a2 * a.a4) * k3) ∧ pm_dt a * y = pm_dt a * y' + 24 * ((a.a5 * a.a6 - a.a3 * a.a8) * k1 + (a.a0 * a.a8 - a.a2 * a.a6) * k2 + (a.a2 * a.a3 - a.a0 * a.a5) * k3) ∧ pm_dt a * z = pm_dt a * z' + 24 * ((a.a3 * a.a7 - a.a4 * a.a6) * k1 + (a.a1 * a.a6 - a.a0 * a.a7) * k2 + (a.a0 * a.a4 - a.a1 * a.a3) * k3) := by
  unfold pm_dt
  refine ⟨?_, ?_, ?_⟩ <;> grind
theorem pm_colm {a : pm_O} (h : pm_unit a) {x y z x' y' z' u v w : Int} (hx : 0 ≤ x ∧ x ≤ 23) (hy : 0 ≤ y ∧ y ≤ 23) (hz : 0 ≤ z ∧ z ≤ 23) (hx' : 0 ≤ x' ∧ x' ≤ 23) (hy' : 0 ≤ y' ∧ y' ≤ 23) (hz' : 0 ≤ z' ∧ z' ≤ 23) (e1 : (a.a0 * x + a.a1 * y + a.a2 * z + u) % 24 = (a.a0 * x' + a.a1 * y' + a.a2 * z' + u) % 24) (e2 : (a.a3 * x + a.a4 * y + a.a5 * z + v) % 24 = (a.a3 * x' + a.a4 * y' + a.a5 * z' + v) % 24) (e3 : (a.a6 * x + a.a7 * y + a.a8 * z + w) % 24 = (a.a6 * x' + a.a7 * y' + a.a8 * z' + w) % 24) : x = x' ∧ y = y' ∧ z = z' := by
  have q1 : ∃ k : Int, a.a0 * x + a.a1 * y + a.a2 * z = a.a0 * x' + a.a1 * y' + a.a2 * z' + 24 * k := ⟨(a.a0 * x + a.a1 * y + a.a2 * z - (a.a0 * x' + a.a1 * y' + a.a2 * z')) / 24, by omega⟩
  have q2 : ∃ k : Int, a.a3 * x + a.a4 * y + a.a5 * z = a.a3 * x' + a.a4 * y' + a.a5 * z' + 24 * k := ⟨(a.a3 * x + a.a4 * y + a.a5 * z - (a.a3 * x' + a.a4 * y' + a.a5 * z')) / 24, by omega⟩
  have q3 : ∃ k : Int, a.a6 * x + a.a7 * y + a.a8 * z = a.a6 * x' + a.a7 * y' + a.a8 * z' + 24 * k := ⟨(a.a6 * x + a.a7 * y + a.a8 * z - (a.a6 * x' + a.a7 * y' + a.a8 * z')) / 24, by omega⟩
  obtain ⟨k1, q1⟩ := q1
  obtain ⟨k2, q2⟩ := q2
  obtain ⟨k3, q3⟩ := q3
  obtain ⟨r1, r2, r3⟩ := pm_colr q1 q2 q3
  rcases h with h | h <;> rw [h] at r1 r2 r3 <;> omega
theorem pm_cancel {a b c : pm_O} (h : pm_unit a) (hb : pm_red b) (hc : pm_red c) (e : pm_mul a b = pm_mul a c) : b = c := by
  have e0 := congrArg pm_O.a0 e
  have e1 := congrArg pm_O.a1 e
  have e2 := congrArg pm_O.a2 e
  have e3 := congrArg pm_O.a3 e
  have e4 := congrArg pm_O.a4 e
  have e5 := congrArg pm_O.a5 e
  have e6 := congrArg pm_O.a6 e
  have e7 := congrArg pm_O.a7 e
  have e8 := congrArg pm_O.a8 e
  have e9 := congrArg pm_O.a9 e
  have e10 := congrArg pm_O.a10 e
  have e11 := congrArg pm_O.a11 e
  simp only [pm_mul_0, pm_mul_1, pm_mul_2, pm_mul_3, pm_mul_4, pm_mul_5, pm_mul_6, pm_mul_7, pm_mul_8, pm_mul_9, pm_mul_10, pm_mul_11] at e0 e1 e2 e3 e4 e5 e6 e7 e8 e9 e10 e11
  obtain ⟨f0, f3, f6⟩ := pm_col h e0 e3 e6
  obtain ⟨f1, f4, f7⟩ := pm_col h e1 e4 e7
  obtain ⟨f2, f5, f8⟩ := pm_col h e2 e5 e8
  unfold pm_red at hb hc
  obtain ⟨s1, s2, s3⟩ := pm_colm h hb.1 hb.2.1 hb.2.2 hc.1 hc.2.1 hc.2.2 e9 e10 e11
  exact pm_O.ext f0 f1 f2 f3 f4 f5 f6 f7 f8 s1 s2 s3
theorem pm_pig : ∀ (n : Nat) (f : Nat → Nat), (∀ i, i < n → f i < n) → (∀ i j, i < n → j < n → f i = f j → i = j) → ∀ m, m < n → ∃ i, i < n ∧ f i = m
  | 0, _, _, _, m, hm => absurd hm (Nat.not_lt_zero _)
  | n + 1, f, hf, inj, m, hm => by
    have ne : ∀ i, i < n → f i ≠ f n := fun i hi e => by
      have := inj i n (by omega) (by omega) e
      omega
    have IH := pm_pig n (fun i => if f i = n then f n else f i) (fun i hi => by
      have h1 := hf i (by omega)
      have h2 := hf n (by omega)
      have h3 := ne i hi
      split <;> omega) (fun i j hi hj e => by
      have h3 := ne i hi
      have h4 := ne j hj
      refine inj i j (by omega) (by omega) ?_
      split at e <;> split at e <;> omega)
    by_cases h1 : f n = m
    · exact ⟨n, by omega, h1⟩
    · by_cases h2 : m = n
      · have h5 := hf n (by omega)
        obtain ⟨i, hi, e⟩ := IH (f n) (by omega)
        split at e
        · rename_i h6
          exact ⟨i, by omega, by omega⟩
        · exact absurd e (ne i hi)
      · obtain ⟨i, hi, e⟩ := IH m (by omega)
        split at e
        · omega
        · exact ⟨i, by omega, e⟩
/-- twelve numbers from b on -/
def pm_o (f : Int → Int) (b : Int) : pm_O := (f b, f (b + 1), f (b + 2), f (b + 3), f (b + 4), f (b + 5), f (b + 6), f (b + 7), f (b + 8), f (b + 9), f (b + 10), f (b + 11))
theorem pm_o_0 (f : Int → Int) (b : Int) : (pm_o f b).a0 = f b := rfl
theorem pm_o_1 (f : Int → Int) (b : Int) : (pm_o f b).a1 = f (b + 1) := rfl
theorem pm_o_2 (f : Int → Int) (b : Int) : (pm_o f b).a2 = f (b + 2) := rfl
theorem pm_o_3 (f : Int → Int) (b : Int) : (pm_o f b).a3 = f (b + 3) := rfl
theorem pm_o_4 (f : Int → Int) (b : Int) : (pm_o f b).a4 = f (b + 4) := rfl
theorem pm_o_5 (f : Int → Int) (b : Int) : (pm_o f b).a5 = f (b + 5) := rfl
theorem pm_o_6 (f : Int → Int) (b : Int) : (pm_o f b).a6 = f (b + 6) := rfl
theorem pm_o_7 (f : Int → Int) (b : Int) : (pm_o f b).a7 = f (b + 7) := rfl
theorem pm_o_8 (f : Int → Int) (b : Int) : (pm_o f b).a8 = f (b + 8) := rfl
theorem pm_o_9 (f : Int → Int) (b : Int) : (pm_o f b).a9 = f (b + 9) := rfl
theorem pm_o_10 (f : Int → Int) (b : Int) : (pm_o f b).a10 = f (b + 10) := rfl
theorem pm_o_11 (f : Int → Int) (b : Int) : (pm_o f b).a11 = f (b + 11) := rfl
theorem pm_o_congr {f g : Int → Int} {a b : Int} (h : ∀ k : Int, 0 ≤ k → k < 12 → f (a + k) = g (b + k)) : pm_o f a = pm_o g b := by
  unfold pm_o
  have h0 := h 0 (by omega) (by omega)
  rw [Int.add_zero, Int.add_zero] at h0
  rw [h0, h 1 (by omega) (by omega), h 2 (by omega) (by omega), h 3 (by omega) (by omega), h 4 (by omega) (by omega), h 5 (by omega) (by omega), h 6 (by omega) (by omega), h 7 (by omega) (by omega), h 8 (by omega) (by omega), h 9 (by omega) (by omega), h 10 (by omega) (by omega), h 11 (by omega) (by omega)]
theorem pm_o_at {f g : Int → Int} {a b : Int} (h : pm_o f a = pm_o g b) (k : Int) (h1 : 0 ≤ k) (h2 : k < 12) : f (a + k) = g (b + k) := by
  have h0 := congrArg pm_O.a0 h
  have e1 := congrArg pm_O.a1 h
  have e2 := congrArg pm_O.a2 h
  have e3 := congrArg pm_O.a3 h
  have e4 := congrArg pm_O.a4 h
  have e5 := congrArg pm_O.a5 h
  have e6 := congrArg pm_O.a6 h
  have e7 := congrArg pm_O.a7 h
  have e8 := congrArg pm_O.a8 h
  have e9 := congrArg pm_O.a9 h
  have e10 := congrArg pm_O.a10 h
  have e11 := congrArg pm_O.a11 h
  simp only [pm_o_0, pm_o_1, pm_o_2, pm_o_3, pm_o_4, pm_o_5, pm_o_6, pm_o_7, pm_o_8, pm_o_9, pm_o_10, pm_o_11] at h0 e1 e2 e3 e4 e5 e6 e7 e8 e9 e10 e11
  have : k = 0 ∨ k = 1 ∨ k = 2 ∨ k = 3 ∨ k = 4 ∨ k = 5 ∨ k = 6 ∨ k = 7 ∨ k = 8 ∨ k = 9 ∨ k = 10 ∨ k = 11 := by omega
  rcases this with e | e | e | e | e | e | e | e | e | e | e | e <;> subst e <;> first | assumption | (rw [Int.add_zero, Int.add_zero]; assumption)
/-- the order of operators: the first number that differs decides -/
def pm_lt (f g : Int → Int) : Prop := ∃ i : Int, 0 ≤ i ∧ i < 12 ∧ (∀ j : Int, 0 ≤ j → j < i → f j = g j) ∧ f i < g i
theorem pm_lt_irr {f g : Int → Int} (h : pm_lt f g) (e : ∀ j : Int, 0 ≤ j → j < 12 → f j = g j) : False := by
  obtain ⟨i, h1, h2, h3, h4⟩ := h
  have := e i h1 h2
  omega
theorem pm_lt_tr {f g k : Int → Int} (h : pm_lt f g) (h' : pm_lt g k) : pm_lt f k := by
  obtain ⟨i, h1, h2, h3, h4⟩ := h
  obtain ⟨j, g1, g2, g3, g4⟩ := h'
  by_cases hij : i < j
  · exact ⟨i, h1, h2, fun m m1 m2 => by rw [h3 m m1 m2]; exact g3 m m1 (by omega), by rw [← g3 i h1 hij]; exact h4⟩
  · by_cases hji : j < i
    · exact ⟨j, g1, g2, fun m m1 m2 => by rw [h3 m m1 (by omega)]; exact g3 m m1 m2, by rw [h3 j g1 hji]; exact g4⟩
    · have : i = j := by omega
      subst this
      exact ⟨i, h1, h2, fun m m1 m2 => by rw [h3 m m1 m2]; exact g3 m m1 m2, by omega⟩
theorem pm_lt_tot (f g : Int → Int) : pm_lt f g ∨ pm_lt g f ∨ ∀ j : Int, 0 ≤ j → j < 12 → f j = g j := by
  have : ∀ n : Nat, n ≤ 12 → pm_lt f g ∨ pm_lt g f ∨ ∀ j : Int, 0 ≤ j → j < n → f j = g j := by
    intro n
    induction n with
    | zero => exact fun _ => Or.inr (Or.inr (fun j h1 h2 => by omega))
    | succ n ih =>
      intro hn
      rcases ih (by omega) with h | h | h
      · exact Or.inl h
      · exact Or.inr (Or.inl h)
      · by_cases h1 : f n < g n
        · exact Or.inl ⟨n, by omega, by omega, h, h1⟩
        · by_cases h2 : g n < f n
          · exact Or.inr (Or.inl ⟨n, by omega, by omega, fun j j1 j2 => (h j j1 j2).symm, h2⟩)
          · refine Or.inr (Or.inr (fun j j1 j2 => ?_))
            by_cases hj : j = n
            · subst hj
              omega
            · exact h j j1 (by omega)
  exact this 12 (by omega)
/-- a row of a table of operators -/
def pm_md (a : pm_O) : Prop := (∀ k : Int, k = a.a0 ∨ k = a.a1 ∨ k = a.a2 ∨ k = a.a3 ∨ k = a.a4 ∨ k = a.a5 ∨ k = a.a6 ∨ k = a.a7 ∨ k = a.a8 → -999 ≤ k ∧ k ≤ 999) ∧ pm_red a ∧ pm_unit a
def pm_Gr (X : Int → Int → Int) (n : Int) : Prop := True → (1 ≤ n) ∧ (n ≤ 384) ∧ (∀ k : Int, 0 ≤ k → k < n → pm_md (pm_o (X k) 0)) ∧ (∀ i j : Int, 0 ≤ i → i < j → j < n → pm_lt (X i) (X j)) ∧ (∃ k : Int, 0 ≤ k ∧ k < n ∧ pm_o (X k) 0 = pm_e) ∧ (∀ i j : Int, 0 ≤ i → i < n → 0 ≤ j → j < n → ∃ k : Int, 0 ≤ k ∧ k < n ∧ pm_o (X k) 0 = pm_mul (pm_o (X i) 0) (pm_o (X j) 0))
theorem pm_Gr.n1 {X : Int → Int → Int} {n : Int} (h : pm_Gr X n) : 1 ≤ n := (h trivial).1
theorem pm_Gr.n2 {X : Int → Int → Int} {n : Int} (h : pm_Gr X n) : n ≤ 384 := (h trivial).2.1
theorem pm_Gr.md {X : Int → Int → Int} {n : Int} (h : pm_Gr X n) : ∀ k : Int, 0 ≤ k → k < n → pm_md (pm_o (X k) 0) := (h trivial).2.2.1
theorem pm_Gr.lt {X : Int → Int → Int} {n : Int} (h : pm_Gr X n) : ∀ i j : Int, 0 ≤ i → i < j → j < n → pm_lt (X i) (X j) := (h trivial).2.2.2.1
theorem pm_Gr.ee {X : Int → Int → Int} {n : Int} (h : pm_Gr X n) : ∃ k : Int, 0 ≤ k ∧ k < n ∧ pm_o (X k) 0 = pm_e := (h trivial).2.2.2.2.1
theorem pm_Gr.cl {X : Int → Int → Int} {n : Int} (h : pm_Gr X n) : ∀ i j : Int, 0 ≤ i → i < n → 0 ≤ j → j < n → ∃ k : Int, 0 ≤ k ∧ k < n ∧ pm_o (X k) 0 = pm_mul (pm_o (X i) 0) (pm_o (X j) 0) := (h trivial).2.2.2.2.2
theorem pm_Gr_inj {X : Int → Int → Int} {n : Int} (h : pm_Gr X n) {i j : Int} (i1 : 0 ≤ i) (i2 : i < n) (j1 : 0 ≤ j) (j2 : j < n) (e : pm_o (X i) 0 = pm_o (X j) 0) : i = j := by
  have e' : ∀ k : Int, 0 ≤ k → k < 12 → X i k = X j k := fun k k1 k2 => by
    have := pm_o_at e k k1 k2
    rw [Int.zero_add] at this
    exact this
  by_cases h1 : i < j
  · exact absurd e' (fun z => pm_lt_irr (h.lt i j i1 h1 j2) z)
  · by_cases h2 : j < i
    · exact absurd e' (fun z => pm_lt_irr (h.lt j i j1 h2 i2) (fun k k1 k2 => (z k k1 k2).symm))
    · omega
/-- each row has its inverse among the rows -/
theorem pm_Gr_inv {X : Int → Int → Int} {n : Int} (h : pm_Gr X n) {i : Int} (i1 : 0 ≤ i) (i2 : i < n) : ∃ k : Int, 0 ≤ k ∧ k < n ∧ pm_mul (pm_o (X i) 0) (pm_o (X k) 0) = pm_e := by
  have hc : ∀ j : Nat, ∃ k : Nat, (j : Int) < n → (k : Int) < n ∧ pm_o (X k) 0 = pm_mul (pm_o (X i) 0) (pm_o (X j) 0) := by
    intro j
    by_cases hj : (j : Int) < n
    · obtain ⟨k, k1, k2, k3⟩ := h.cl i j i1 i2 (by omega) hj
      refine ⟨k.toNat, fun _ => ?_⟩
      rw [Int.toNat_of_nonneg k1]
      exact ⟨k2, k3⟩
    · exact ⟨0, fun z => absurd z hj⟩
  let f : Nat → Nat := fun j => Classical.choose (hc j)
  have hf : ∀ j : Nat, (j : Int) < n → ((f j : Nat) : Int) < n ∧ pm_o (X (f j)) 0 = pm_mul (pm_o (X i) 0) (pm_o (X j) 0) := fun j => Classical.choose_spec (hc j)
  obtain ⟨m, m1, m2, m3⟩ := h.ee
  obtain ⟨k, k1, k2⟩ := pm_pig n.toNat f (fun j hj => by have := (hf j (by omega)).1; omega) (fun a b ha hb e => by
    have e1 := (hf a (by omega)).2
    have e2 := (hf b (by omega)).2
    rw [e, e2] at e1
    have e3 := pm_cancel (h.md i i1 i2).2.2 (h.md b (by omega) (by omega)).2.1 (h.md a (by omega) (by omega)).2.1 e1
    have := pm_Gr_inj h (by omega) (by omega) (by omega) (by omega) e3
    omega) m.toNat (by omega)
  refine ⟨k, by omega, by omega, ?_⟩
  rw [← (hf k (by omega)).2, k2, Int.toNat_of_nonneg m1]
  exact m3
end GRP2
