/-! more small laws -/
section LEM
/-- the numbers of place q from a on, ahead of b, are f's -/
def pm_er (τ : pm_H) (q : Nat) (a b : Int) (f : Int → Int) : Prop := ∀ k : Int, a ≤ k → k < b → τ q k = f k
variable {σ τ ρ : pm_H} {q q' : Nat} {a b i v : Int} {f : Int → Int}
theorem pm_er_uo (h : pm_er τ q a b f) (hv : i < a ∨ b ≤ i) : pm_er (pm_up τ q i v) q a b f := by
  intro k h1 h2
  unfold pm_up
  rw [if_neg (fun z => by omega)]
  exact h k h1 h2
theorem pm_er_ne (h : pm_er τ q a b f) (hq : q ≠ q') : pm_er (pm_up τ q' i v) q a b f := by
  intro k h1 h2
  rw [pu_ne hq]
  exact h k h1 h2
theorem pm_er_eq (h : pm_er τ q a b f) (e : ρ q = τ q) : pm_er ρ q a b f := by
  intro k h1 h2
  rw [e]
  exact h k h1 h2
theorem pm_er_nil (h : b ≤ a) : pm_er τ q a b f := fun k h1 h2 => by omega
theorem pm_er_push {b' : Int} (h : pm_er τ q a b f) (hi : i = b) (hb : b' = b + 1) (hv : v = f b) : pm_er (pm_up τ q i v) q a b' f := by
  subst hi hb
  intro k h1 h2
  unfold pm_up
  split
  · rename_i z
    rw [z.2]
    exact hv
  · rename_i hk
    exact h k h1 (by
      have : k ≠ i := fun e => hk ⟨rfl, e⟩
      omega)
theorem pm_er_sub {a' b' : Int} (h : pm_er τ q a b f) (h1 : a ≤ a') (h2 : b' ≤ b) : pm_er τ q a' b' f := fun k g1 g2 => h k (by omega) (by omega)
theorem pm_er_rf : pm_er τ q a b (τ q) := fun _ _ _ => rfl
theorem pm_er_at (h : pm_er τ q a b f) {k : Int} (h1 : a ≤ k) (h2 : k < b) : τ q k = f k := h k h1 h2
theorem pm_rg_at {lo hi : Int} (h : pm_rg τ q a b lo hi) {k : Int} (h1 : a ≤ k) (h2 : k < b) : lo ≤ τ q k ∧ τ q k ≤ hi := h k h1 h2
theorem pm_rg_app {lo hi b' : Int} (h : pm_rg τ q a b lo hi) (hi2 : i = b) (hb : b' = b + 1) (hv : lo ≤ v ∧ v ≤ hi) : pm_rg (pm_up τ q i v) q a b' lo hi := by
  subst hi2
  exact pm_rg_push h hv hb
theorem pm_tm {a b : Int} (hb : 0 < b) : (Int.tmod a b < 0 → Int.tmod a b + b = a % b) ∧ (0 ≤ Int.tmod a b → Int.tmod a b = a % b) ∧ -b < Int.tmod a b ∧ Int.tmod a b < b := by
  have h1 := Int.tmod_add_mul_tdiv a b
  have h2 : 0 ≤ a % b := Int.emod_nonneg a (by omega)
  have h3 : a % b < b := Int.emod_lt_of_pos a hb
  by_cases ha : 0 ≤ a
  · have h4 := Int.tmod_eq_emod_of_nonneg (b := b) ha
    omega
  · have h5 : Int.tmod a b = -((-a) % b) := by
      have h6 := Int.neg_tmod (-a) b
      rw [Int.neg_neg] at h6
      rw [Int.tmod_eq_emod_of_nonneg (a := -a) (by omega)] at h6
      exact h6
    have h7 : 0 ≤ (-a) % b := Int.emod_nonneg (-a) (by omega)
    have h8 : (-a) % b < b := Int.emod_lt_of_pos (-a) hb
    by_cases h9 : (-a) % b = 0
    · have h10 : a % b = 0 := by
        have h11 : b ∣ -a := Int.dvd_of_emod_eq_zero h9
        exact Int.emod_eq_zero_of_dvd ((Int.dvd_neg).mp h11)
      omega
    · have h10 : a % b = b - (-a) % b := by
        have e1 : a = b * (-((-a) / b) - 1) + (b - (-a) % b) := by
          have := Int.mul_ediv_add_emod (-a) b
          rw [Int.mul_sub, Int.mul_neg]
          omega
        have e2 : (b * (-((-a) / b) - 1) + (b - (-a) % b)) % b = (b - (-a) % b) % b := by
          rw [Int.add_comm, Int.add_mul_emod_self_left]
        have e3 : (b - (-a) % b) % b = b - (-a) % b := Int.emod_eq_of_lt (by omega) (by omega)
        rw [← e3, ← e2, ← e1]
      omega
/-- nine numbers as a matrix: its determinant -/
def pm_det (f : Int → Int) (a : Int) : Int := f a * (f (a + 4) * f (a + 8) - f (a + 5) * f (a + 7)) - f (a + 1) * (f (a + 3) * f (a + 8) - f (a + 5) * f (a + 6)) + f (a + 2) * (f (a + 3) * f (a + 7) - f (a + 4) * f (a + 6))
theorem mul_ab {x y A B : Int} (hx : -A ≤ x ∧ x ≤ A) (hy : -B ≤ y ∧ y ≤ B) : -(A * B) ≤ x * y ∧ x * y ≤ A * B := by
  have hA : 0 ≤ A := by omega
  have hB : 0 ≤ B := by omega
  have hAB := Int.mul_nonneg hA hB
  have h1 := ax_mulk (k := y) hx.1 hx.2
  have h2 := ax_mulk (k := A) hy.1 hy.2
  have e1 : -A * y = -(y * A) := by rw [Int.neg_mul, Int.mul_comm]
  have e2 : A * y = y * A := Int.mul_comm ..
  have e3 : -B * A = -(A * B) := by rw [Int.neg_mul, Int.mul_comm]
  have e4 : B * A = A * B := Int.mul_comm ..
  rw [e1, e2] at h1
  rw [e3, e4] at h2
  omega
theorem w32_w1 (x y : Int) : w32 (w32 x + y) = w32 (x + y) := by unfold w32; omega
theorem w32_w2 (x y : Int) : w32 (x + w32 y) = w32 (x + y) := by unfold w32; omega
theorem w32_w3 (x y : Int) : w32 (w32 x - y) = w32 (x - y) := by unfold w32; omega
theorem w32_w4 (x y : Int) : w32 (x - w32 y) = w32 (x - y) := by unfold w32; omega
theorem w32_sub (x : Int) : ∃ k : Int, w32 x = x + 4294967296 * k := ⟨-((x + 2147483648) / 4294967296), by unfold w32; omega⟩
theorem w32_ad (x k : Int) : w32 (x + 4294967296 * k) = w32 x := by unfold w32; omega
theorem w32_m1 (x y : Int) : w32 (w32 x * y) = w32 (x * y) := by
  obtain ⟨k, hk⟩ := w32_sub x
  rw [hk, Int.add_mul, Int.mul_assoc, w32_ad]
theorem w32_m2 (x y : Int) : w32 (x * w32 y) = w32 (x * y) := by
  rw [Int.mul_comm, w32_m1, Int.mul_comm]
theorem w32_neg (x : Int) : w32 (-(w32 x)) = w32 (-x) := by unfold w32; omega
end LEM
