/-! the turned rows: a basis, its inverse, and what it makes of a group -/
section TRN
theorem w64_w1 (x y : Int) : w64 (w64 x + y) = w64 (x + y) := by unfold w64; omega
theorem w64_w2 (x y : Int) : w64 (x + w64 y) = w64 (x + y) := by unfold w64; omega
theorem w64_w3 (x y : Int) : w64 (w64 x - y) = w64 (x - y) := by unfold w64; omega
theorem w64_w4 (x y : Int) : w64 (x - w64 y) = w64 (x - y) := by unfold w64; omega
theorem pv_w5 (x b p q s : Int) : w64 (w64 x + b - p - q - s) = w64 (x + b - p - q - s) := by unfold w64; omega
theorem pv_k9 {P : Int → Prop} (h0 : P 0) (h1 : P 1) (h2 : P 2) (h3 : P 3) (h4 : P 4) (h5 : P 5) (h6 : P 6) (h7 : P 7) (h8 : P 8) (k : Int) (k1 : 0 ≤ k) (k2 : k < 9) : P k := by
  rcases (by omega : k = 0 ∨ k = 1 ∨ k = 2 ∨ k = 3 ∨ k = 4 ∨ k = 5 ∨ k = 6 ∨ k = 7 ∨ k = 8) with rfl | rfl | rfl | rfl | rfl | rfl | rfl | rfl | rfl <;> assumption
theorem pv_k3 {P : Int → Prop} (h0 : P 0) (h1 : P 1) (h2 : P 2) (k : Int) (k1 : 0 ≤ k) (k2 : k < 3) : P k := by
  rcases (by omega : k = 0 ∨ k = 1 ∨ k = 2) with rfl | rfl | rfl <;> assumption
def pv_wd (f g : Int → Int) (a k : Int) : Int := f (3 * (k / 3)) * g (a + k % 3) + f (3 * (k / 3) + 1) * g (a + 3 + k % 3) + f (3 * (k / 3) + 2) * g (a + 6 + k % 3)
def pv_we (f g : Int → Int) (k : Int) : Int := f (3 * (k / 3)) * g (k % 3) + f (3 * (k / 3) + 1) * g (3 + k % 3) + f (3 * (k / 3) + 2) * g (6 + k % 3)
theorem pv_64 {x y z u v w : Int} (h1 : -1000000 ≤ x ∧ x ≤ 1000000) (h2 : -1000000 ≤ y ∧ y ≤ 1000000) (h3 : -1000000 ≤ z ∧ z ≤ 1000000) (h4 : -1000000 ≤ u ∧ u ≤ 1000000) (h5 : -1000000 ≤ v ∧ v ≤ 1000000) (h6 : -1000000 ≤ w ∧ w ≤ 1000000) : w64 (x * y + z * u + v * w) = x * y + z * u + v * w := by
  have a1 := mul_ab h1 h2
  have a2 := mul_ab h3 h4
  have a3 := mul_ab h5 h6
  exact w64_id (by omega)
theorem pv_wd_64 {f g : Int → Int} {a i j : Int} (hf : ∀ k : Int, 0 ≤ k → k < 9 → -1000000 ≤ f k ∧ f k ≤ 1000000) (hg : ∀ k : Int, a ≤ k → k < a + 9 → -1000000 ≤ g k ∧ g k ≤ 1000000) (hi : 0 ≤ i ∧ i < 3) (hj : 0 ≤ j ∧ j < 3) : w64 (f (3 * i) * g (a + j) + f (3 * i + 1) * g (a + 3 + j) + f (3 * i + 2) * g (a + 6 + j)) = pv_wd f g a (3 * i + j) := by
  have e1 : (3 * i + j) / 3 = i := by omega
  have e2 : (3 * i + j) % 3 = j := by omega
  unfold pv_wd
  rw [e1, e2]
  exact pv_64 (hf _ (by omega) (by omega)) (hg _ (by omega) (by omega)) (hf _ (by omega) (by omega)) (hg _ (by omega) (by omega)) (hf _ (by omega) (by omega)) (hg _ (by omega) (by omega))
theorem pv_we_64 {f g : Int → Int} {i j : Int} (hf : ∀ k : Int, 0 ≤ k → k < 9 → -1000000 ≤ f k ∧ f k ≤ 1000000) (hg : ∀ k : Int, 0 ≤ k → k < 9 → -1000000 ≤ g k ∧ g k ≤ 1000000) (hi : 0 ≤ i ∧ i < 3) (hj : 0 ≤ j ∧ j < 3) : w64 (f (3 * i) * g j + f (3 * i + 1) * g (3 + j) + f (3 * i + 2) * g (6 + j)) = pv_we f g (3 * i + j) := by
  have e1 : (3 * i + j) / 3 = i := by omega
  have e2 : (3 * i + j) % 3 = j := by omega
  unfold pv_we
  rw [e1, e2]
  exact pv_64 (hf _ (by omega) (by omega)) (hg _ (by omega) (by omega)) (hf _ (by omega) (by omega)) (hg _ (by omega) (by omega)) (hf _ (by omega) (by omega)) (hg _ (by omega) (by omega))
theorem pv_wd_rg {f g : Int → Int} {a k : Int} (hf : ∀ k : Int, 0 ≤ k → k < 9 → -162 ≤ f k ∧ f k ≤ 162) (hg : ∀ k : Int, a ≤ k → k < a + 9 → -999 ≤ g k ∧ g k ≤ 999) (k1 : 0 ≤ k) (k2 : k < 9) : -1000000 ≤ pv_wd f g a k ∧ pv_wd f g a k ≤ 1000000 := by
  unfold pv_wd
  have a1 := mul_ab (hf (3 * (k / 3)) (by omega) (by omega)) (hg (a + k % 3) (by omega) (by omega))
  have a2 := mul_ab (hf (3 * (k / 3) + 1) (by omega) (by omega)) (hg (a + 3 + k % 3) (by omega) (by omega))
  have a3 := mul_ab (hf (3 * (k / 3) + 2) (by omega) (by omega)) (hg (a + 6 + k % 3) (by omega) (by omega))
  omega
/-- cofactors -/
def pv_cf (f : Int → Int) (d k : Int) : Int := d * (f (3 * ((k % 3 + 1) % 3) + (k / 3 + 1) % 3) * f (3 * ((k % 3 + 2) % 3) + (k / 3 + 2) % 3) - f (3 * ((k % 3 + 1) % 3) + (k / 3 + 2) % 3) * f (3 * ((k % 3 + 2) % 3) + (k / 3 + 1) % 3))
theorem pv_cf_b {f : Int → Int} {d p q r s : Int} (hf : ∀ k : Int, 0 ≤ k → k < 9 → -9 ≤ f k ∧ f k ≤ 9) (hd : d = 1 ∨ d = -1) (hp : 0 ≤ p ∧ p < 9) (hq : 0 ≤ q ∧ q < 9) (hr : 0 ≤ r ∧ r < 9) (hs : 0 ≤ s ∧ s < 9) : -162 ≤ d * (f p * f q - f r * f s) ∧ d * (f p * f q - f r * f s) ≤ 162 := by
  have a1 := mul_ab (hf p hp.1 hp.2) (hf q hq.1 hq.2)
  have a2 := mul_ab (hf r hr.1 hr.2) (hf s hs.1 hs.2)
  rcases hd with rfl | rfl <;> omega
theorem pv_cf_rg {f : Int → Int} {d k : Int} (hf : ∀ k : Int, 0 ≤ k → k < 9 → -9 ≤ f k ∧ f k ≤ 9) (hd : d = 1 ∨ d = -1) (k1 : 0 ≤ k) (k2 : k < 9) : -162 ≤ pv_cf f d k ∧ pv_cf f d k ≤ 162 := pv_cf_b hf hd (by omega) (by omega) (by omega) (by omega)
theorem pv_cf_32 {f : Int → Int} {d i j : Int} (hf : ∀ k : Int, 0 ≤ k → k < 9 → -9 ≤ f k ∧ f k ≤ 9) (hd : d = 1 ∨ d = -1) (hi : 0 ≤ i ∧ i < 3) (hj : 0 ≤ j ∧ j < 3) : w32 (d * (f (3 * ((j + 1) % 3) + (i + 1) % 3) * f (3 * ((j + 2) % 3) + (i + 2) % 3) - f (3 * ((j + 1) % 3) + (i + 2) % 3) * f (3 * ((j + 2) % 3) + (i + 1) % 3))) = pv_cf f d (3 * i + j) := by
  have e1 : (3 * i + j) / 3 = i := by omega
  have e2 : (3 * i + j) % 3 = j := by omega
  unfold pv_cf
  rw [e1, e2]
  have b := pv_cf_b (f := f) (p := 3 * ((j + 1) % 3) + (i + 1) % 3) (q := 3 * ((j + 2) % 3) + (i + 2) % 3) (r := 3 * ((j + 1) % 3) + (i + 2) % 3) (s := 3 * ((j + 2) % 3) + (i + 1) % 3) hf hd (by omega) (by omega) (by omega) (by omega)
  exact w32_id (by omega)
theorem pv_det_w {f : Int → Int} (hf : ∀ k : Int, 0 ≤ k → k < 9 → -9 ≤ f k ∧ f k ≤ 9) : w32 (pm_det f 0) = pm_det f 0 := by
  unfold pm_det
  have h0 := hf 0 (by omega) (by omega)
  have h1 := hf 1 (by omega) (by omega)
  have h2 := hf 2 (by omega) (by omega)
  have h3 := hf 3 (by omega) (by omega)
  have h4 := hf 4 (by omega) (by omega)
  have h5 := hf 5 (by omega) (by omega)
  have h6 := hf 6 (by omega) (by omega)
  have h7 := hf 7 (by omega) (by omega)
  have h8 := hf 8 (by omega) (by omega)
  have a1 := mul_ab h4 h8
  have a2 := mul_ab h5 h7
  have a3 := mul_ab h3 h8
  have a4 := mul_ab h5 h6
  have a5 := mul_ab h3 h7
  have a6 := mul_ab h4 h6
  simp only [Int.zero_add]
  have b1 := mul_ab (B := 162) h0 (y := f 4 * f 8 - f 5 * f 7) (by omega)
  have b2 := mul_ab (B := 162) h1 (y := f 3 * f 8 - f 5 * f 6) (by omega)
  have b3 := mul_ab (B := 162) h2 (y := f 3 * f 7 - f 4 * f 6) (by omega)
  exact w32_id (by omega)
theorem pv_cf_0 (f : Int → Int) (d : Int) : pv_cf f d 0 = d * (f 4 * f 8 - f 5 * f 7) := rfl
theorem pv_cf_1 (f : Int → Int) (d : Int) : pv_cf f d 1 = d * (f 7 * f 2 - f 8 * f 1) := rfl
theorem pv_cf_2 (f : Int → Int) (d : Int) : pv_cf f d 2 = d * (f 1 * f 5 - f 2 * f 4) := rfl
theorem pv_cf_3 (f : Int → Int) (d : Int) : pv_cf f d 3 = d * (f 5 * f 6 - f 3 * f 8) := rfl
theorem pv_cf_4 (f : Int → Int) (d : Int) : pv_cf f d 4 = d * (f 8 * f 0 - f 6 * f 2) := rfl
theorem pv_cf_5 (f : Int → Int) (d : Int) : pv_cf f d 5 = d * (f 2 * f 3 - f 0 * f 5) := rfl
theorem pv_cf_6 (f : Int → Int) (d : Int) : pv_cf f d 6 = d * (f 3 * f 7 - f 4 * f 6) := rfl
theorem pv_cf_7 (f : Int → Int) (d : Int) : pv_cf f d 7 = d * (f 6 * f 1 - f 7 * f 0) := rfl
theorem pv_cf_8 (f : Int → Int) (d : Int) : pv_cf f d 8 = d * (f 0 * f 4 - f 1 * f 3) := rfl
def pv_iv (f : Int → Int) (d : Int) : pm_O := (pv_cf f d 0, pv_cf f d 1, pv_cf f d 2, pv_cf f d 3, pv_cf f d 4, pv_cf f d 5, pv_cf f d 6, pv_cf f d 7, pv_cf f d 8, (-(pv_cf f d 0 * f 9 + pv_cf f d 1 * f 10 + pv_cf f d 2 * f 11)) % 24, (-(pv_cf f d 3 * f 9 + pv_cf f d 4 * f 10 + pv_cf f d 5 * f 11)) % 24, (-(pv_cf f d 6 * f 9 + pv_cf f d 7 * f 10 + pv_cf f d 8 * f 11)) % 24)
theorem pv_iv_0 (f : Int → Int) (d : Int) : (pv_iv f d).a0 = pv_cf f d 0 := rfl
theorem pv_iv_1 (f : Int → Int) (d : Int) : (pv_iv f d).a1 = pv_cf f d 1 := rfl
theorem pv_iv_2 (f : Int → Int) (d : Int) : (pv_iv f d).a2 = pv_cf f d 2 := rfl
theorem pv_iv_3 (f : Int → Int) (d : Int) : (pv_iv f d).a3 = pv_cf f d 3 := rfl
theorem pv_iv_4 (f : Int → Int) (d : Int) : (pv_iv f d).a4 = pv_cf f d 4 := rfl
theorem pv_iv_5 (f : Int → Int) (d : Int) : (pv_iv f d).a5 = pv_cf f d 5 := rfl
theorem pv_iv_6 (f : Int → Int) (d : Int) : (pv_iv f d).a6 = pv_cf f d 6 := rfl
theorem pv_iv_7 (f : Int → Int) (d : Int) : (pv_iv f d).a7 = pv_cf f d 7 := rfl
theorem pv_iv_8 (f : Int → Int) (d : Int) : (pv_iv f d).a8 = pv_cf f d 8 := rfl
theorem pv_iv_9 (f : Int → Int) (d : Int) : (pv_iv f d).a9 = (-(pv_cf f d 0 * f 9 + pv_cf f d 1 * f 10 + pv_cf f d 2 * f 11)) % 24 := rfl
theorem pv_iv_10 (f : Int → Int) (d : Int) : (pv_iv f d).a10 = (-(pv_cf f d 3 * f 9 + pv_cf f d 4 * f 10 + pv_cf f d 5 * f 11)) % 24 := rfl
theorem pv_iv_11 (f : Int → Int) (d : Int) : (pv_iv f d).a11 = (-(pv_cf f d 6 * f 9 + pv_cf f d 7 * f 10 + pv_cf f d 8 * f 11)) % 24 := rfl
theorem pv_det_0 (f : Int → Int) : pm_det f 0 = f 0 * (f 4 * f 8 - f 5 * f 7) - f 1 * (f 3 * f 8 - f 5 * f 6) + f 2 * (f 3 * f 7 - f 4 * f 6) := by
  unfold pm_det
  simp only [Int.zero_add]
theorem pv_bc {f : Int → Int} {d : Int} (hd : d = 1 ∨ d = -1) (h : pm_det f 0 = d) : (f 0 * pv_cf f d 0 + f 1 * pv_cf f d 3 + f 2 * pv_cf f d 6 = 1) ∧ (f 0 * pv_cf f d 1 + f 1 * pv_cf f d 4 + f 2 * pv_cf f d 7 = 0) ∧ (f 0 * pv_cf f d 2 + f 1 * pv_cf f d 5 + f 2 * pv_cf f d 8 = 0) ∧ (f 3 * pv_cf f d 0 + f 4 * pv_cf f d 3 + f 5 * pv_cf f d 6 = 0) ∧ (f 3 * pv_cf f d 1 + f 4 * pv_cf f d 4 + f 5 * pv_cf f d 7 = 1) ∧ (f 3 * pv_cf f d 2 + f 4 * pv_cf f d 5 + f 5 * pv_cf f d 8 = 0) ∧ (f 6 * pv_cf f d 0 + f 7 * pv_cf f d 3 + f 8 * pv_cf f d 6 = 0) ∧ (f 6 * pv_cf f d 1 + f 7 * pv_cf f d 4 + f 8 * pv_cf f d 7 = 0) ∧ (f 6 * pv_cf f d 2 + f 7 * pv_cf f d 5 + f 8 * pv_cf f d 8 = 1) := by
  rw [pv_det_0] at h
  simp only [pv_cf_0, pv_cf_1, pv_cf_2, pv_cf_3, pv_cf_4, pv_cf_5, pv_cf_6, pv_cf_7, pv_cf_8]
  generalize f 0 = f0 at *
  generalize f 1 = f1 at *
  generalize f 2 = f2 at *
  generalize f 3 = f3 at *
  generalize f 4 = f4 at *
  generalize f 5 = f5 at *
  generalize f 6 = f6 at *
  generalize f 7 = f7 at *
  generalize f 8 = f8 at *
  rcases hd with rfl | rfl
  · refine ⟨?_, ?_, ?_, ?_, ?_, ?_, ?_, ?_, ?_⟩ <;> grind
  · refine ⟨?_, ?_, ?_, ?_, ?_, ?_, ?_, ?_, ?_⟩ <;> grind
theorem pv_cb {f : Int → Int} {d : Int} (hd : d = 1 ∨ d = -1) (h : pm_det f 0 = d) : (pv_cf f d 0 * f 0 + pv_cf f d 1 * f 3 + pv_cf f d 2 * f 6 = 1) ∧ (pv_cf f d 0 * f 1 + pv_cf f d 1 * f 4 + pv_cf f d 2 * f 7 = 0) ∧ (pv_cf f d 0 * f 2 + pv_cf f d 1 * f 5 + pv_cf f d 2 * f 8 = 0) ∧ (pv_cf f d 3 * f 0 + pv_cf f d 4 * f 3 + pv_cf f d 5 * f 6 = 0) ∧ (pv_cf f d 3 * f 1 + pv_cf f d 4 * f 4 + pv_cf f d 5 * f 7 = 1) ∧ (pv_cf f d 3 * f 2 + pv_cf f d 4 * f 5 + pv_cf f d 5 * f 8 = 0) ∧ (pv_cf f d 6 * f 0 + pv_cf f d 7 * f 3 + pv_cf f d 8 * f 6 = 0) ∧ (pv_cf f d 6 * f 1 + pv_cf f d 7 * f 4 + pv_cf f d 8 * f 7 = 0) ∧ (pv_cf f d 6 * f 2 + pv_cf f d 7 * f 5 + pv_cf f d 8 * f 8 = 1) := by
  rw [pv_det_0] at h
  simp only [pv_cf_0, pv_cf_1, pv_cf_2, pv_cf_3, pv_cf_4, pv_cf_5, pv_cf_6, pv_cf_7, pv_cf_8]
  generalize f 0 = f0 at *
  generalize f 1 = f1 at *
  generalize f 2 = f2 at *
  generalize f 3 = f3 at *
  generalize f 4 = f4 at *
  generalize f 5 = f5 at *
  generalize f 6 = f6 at *
  generalize f 7 = f7 at *
  generalize f 8 = f8 at *
  rcases hd with rfl | rfl
  · refine ⟨?_, ?_, ?_, ?_, ?_, ?_, ?_, ?_, ?_⟩ <;> grind
  · refine ⟨?_, ?_, ?_, ?_, ?_, ?_, ?_, ?_, ?_⟩ <;> grind
theorem pv_tr3 {a b c c0 c1 c2 c3 c4 c5 c6 c7 c8 x y z p q r : Int} (h0 : a * c0 + b * c3 + c * c6 = p) (h1 : a * c1 + b * c4 + c * c7 = q) (h2 : a * c2 + b * c5 + c * c8 = r) : a * -(c0 * x + c1 * y + c2 * z) + b * -(c3 * x + c4 * y + c5 * z) + c * -(c6 * x + c7 * y + c8 * z) = -(p * x + q * y + r * z) := by
  subst h0 h1 h2
  grind
theorem pv_mM {f : Int → Int} {d : Int} (hd : d = 1 ∨ d = -1) (h : pm_det f 0 = d) : pm_mul (pm_o f 0) (pv_iv f d) = pm_e := by
  obtain ⟨b0, b1, b2, b3, b4, b5, b6, b7, b8⟩ := pv_bc hd h
  refine pm_O.ext ?_ ?_ ?_ ?_ ?_ ?_ ?_ ?_ ?_ ?_ ?_ ?_
  all_goals (simp only [pm_mul_0, pm_mul_1, pm_mul_2, pm_mul_3, pm_mul_4, pm_mul_5, pm_mul_6, pm_mul_7, pm_mul_8, pm_mul_9, pm_mul_10, pm_mul_11, pm_o_0, pm_o_1, pm_o_2, pm_o_3, pm_o_4, pm_o_5, pm_o_6, pm_o_7, pm_o_8, pm_o_9, pm_o_10, pm_o_11, pv_iv_0, pv_iv_1, pv_iv_2, pv_iv_3, pv_iv_4, pv_iv_5, pv_iv_6, pv_iv_7, pv_iv_8, pv_iv_9, pv_iv_10, pv_iv_11, pm_e_0, pm_e_1, pm_e_2, pm_e_3, pm_e_4, pm_e_5, pm_e_6, pm_e_7, pm_e_8, pm_e_9, pm_e_10, pm_e_11, Int.zero_add])
  all_goals (first | assumption | (rw [pm_m24]; (first | rw [pv_tr3 b0 b1 b2] | rw [pv_tr3 b3 b4 b5] | rw [pv_tr3 b6 b7 b8]); omega))
theorem pv_Mm {f : Int → Int} {d : Int} (hd : d = 1 ∨ d = -1) (h : pm_det f 0 = d) : pm_mul (pv_iv f d) (pm_o f 0) = pm_e := by
  obtain ⟨b0, b1, b2, b3, b4, b5, b6, b7, b8⟩ := pv_cb hd h
  refine pm_O.ext ?_ ?_ ?_ ?_ ?_ ?_ ?_ ?_ ?_ ?_ ?_ ?_
  all_goals (simp only [pm_mul_0, pm_mul_1, pm_mul_2, pm_mul_3, pm_mul_4, pm_mul_5, pm_mul_6, pm_mul_7, pm_mul_8, pm_mul_9, pm_mul_10, pm_mul_11, pm_o_0, pm_o_1, pm_o_2, pm_o_3, pm_o_4, pm_o_5, pm_o_6, pm_o_7, pm_o_8, pm_o_9, pm_o_10, pm_o_11, pv_iv_0, pv_iv_1, pv_iv_2, pv_iv_3, pv_iv_4, pv_iv_5, pv_iv_6, pv_iv_7, pv_iv_8, pv_iv_9, pv_iv_10, pv_iv_11, pm_e_0, pm_e_1, pm_e_2, pm_e_3, pm_e_4, pm_e_5, pm_e_6, pm_e_7, pm_e_8, pm_e_9, pm_e_10, pm_e_11, Int.zero_add])
  all_goals (first | assumption | omega)
/-- a row in another basis -/
def pv_cj (f : Int → Int) (d b : Int) (x : pm_O) : pm_O := if b = 0 then pm_mul (pm_mul (pm_o f 0) x) (pv_iv f d) else pm_mul (pm_mul (pv_iv f d) x) (pm_o f 0)
theorem pv_cj_g {P Q x y : pm_O} (h : pm_mul Q P = pm_e) : pm_mul (pm_mul (pm_mul P x) Q) (pm_mul (pm_mul P y) Q) = pm_mul (pm_mul P (pm_mul x y)) Q := by
  rw [← pm_assoc (pm_mul (pm_mul P x) Q) (pm_mul P y) Q, ← pm_assoc (pm_mul (pm_mul P x) Q) P y, pm_assoc (pm_mul P x) Q P, h, pm_mul_e (pm_red_mul _ _), pm_assoc P x y]
theorem pv_cj_mul {f : Int → Int} {d b : Int} (hd : d = 1 ∨ d = -1) (h : pm_det f 0 = d) (x y : pm_O) : pm_mul (pv_cj f d b x) (pv_cj f d b y) = pv_cj f d b (pm_mul x y) := by
  unfold pv_cj
  split
  · exact pv_cj_g (pv_Mm hd h)
  · exact pv_cj_g (pv_mM hd h)
theorem pv_un_o {f : Int → Int} {d : Int} (hd : d = 1 ∨ d = -1) (h : pm_det f 0 = d) : pm_unit (pm_o f 0) := by
  unfold pm_unit pm_dt
  simp only [pm_o_0, pm_o_1, pm_o_2, pm_o_3, pm_o_4, pm_o_5, pm_o_6, pm_o_7, pm_o_8, pm_o_9, pm_o_10, pm_o_11, Int.zero_add]
  rw [pv_det_0] at h
  rw [h]
  exact hd
theorem pv_un_q {P Q : pm_O} (h : pm_mul P Q = pm_e) (hp : pm_unit P) : pm_unit Q := by
  have e := congrArg pm_dt h
  rw [pm_dt_mul] at e
  have e1 : pm_dt pm_e = 1 := by decide
  rw [e1] at e
  unfold pm_unit at *
  rcases hp with hp | hp <;> rw [hp] at e <;> omega
theorem pv_cj_e {f : Int → Int} {d b : Int} (hd : d = 1 ∨ d = -1) (h : pm_det f 0 = d) (hr : pm_red (pm_o f 0)) : pv_cj f d b pm_e = pm_e := by
  unfold pv_cj
  split
  · rw [pm_mul_e hr]
    exact pv_mM hd h
  · rw [pm_mul_e (a := pv_iv f d) (by unfold pm_red; simp only [pv_iv_9, pv_iv_10, pv_iv_11]; omega)]
    exact pv_Mm hd h
theorem pv_cj_ig {P Q x y : pm_O} (h : pm_mul Q P = pm_e) (hP : pm_unit P) (hx : pm_red x) (hy : pm_red y) (e : pm_mul (pm_mul P x) Q = pm_mul (pm_mul P y) Q) : x = y := by
  have e2 := congrArg (fun z => pm_mul z P) e

  rw [pm_assoc (pm_mul P x) Q P, pm_assoc (pm_mul P y) Q P, h, pm_mul_e (pm_red_mul _ _), pm_mul_e (pm_red_mul _ _)] at e2
  exact pm_cancel hP hx hy e2
theorem pv_cj_i {f : Int → Int} {d b : Int} {x y : pm_O} (hd : d = 1 ∨ d = -1) (h : pm_det f 0 = d) (hx : pm_red x) (hy : pm_red y) (e : pv_cj f d b x = pv_cj f d b y) : x = y := by
  unfold pv_cj at e
  split at e
  · exact pv_cj_ig (pv_Mm hd h) (pv_un_o hd h) hx hy e
  · exact pv_cj_ig (pv_mM hd h) (pv_un_q (pv_mM hd h) (pv_un_o hd h)) hx hy e
theorem pv_cj_un {f : Int → Int} {d b : Int} {x : pm_O} (hd : d = 1 ∨ d = -1) (h : pm_det f 0 = d) (hx : pm_unit x) : pm_unit (pv_cj f d b x) ∧ pm_red (pv_cj f d b x) := by
  unfold pv_cj
  have u1 := pv_un_o hd h
  have u2 := pv_un_q (pv_mM hd h) u1
  split
  · exact ⟨pm_unit_mul (pm_unit_mul u1 hx) u2, pm_red_mul _ _⟩
  · exact ⟨pm_unit_mul (pm_unit_mul u2 hx) u1, pm_red_mul _ _⟩
def pv_c12 (o : pm_O) (k : Int) : Int := if k = 0 then o.a0 else if k = 1 then o.a1 else if k = 2 then o.a2 else if k = 3 then o.a3 else if k = 4 then o.a4 else if k = 5 then o.a5 else if k = 6 then o.a6 else if k = 7 then o.a7 else if k = 8 then o.a8 else if k = 9 then o.a9 else if k = 10 then o.a10 else o.a11
theorem pv_c12_0 (o : pm_O) : pv_c12 o 0 = o.a0 := rfl
theorem pv_c12_1 (o : pm_O) : pv_c12 o 1 = o.a1 := rfl
theorem pv_c12_2 (o : pm_O) : pv_c12 o 2 = o.a2 := rfl
theorem pv_c12_3 (o : pm_O) : pv_c12 o 3 = o.a3 := rfl
theorem pv_c12_4 (o : pm_O) : pv_c12 o 4 = o.a4 := rfl
theorem pv_c12_5 (o : pm_O) : pv_c12 o 5 = o.a5 := rfl
theorem pv_c12_6 (o : pm_O) : pv_c12 o 6 = o.a6 := rfl
theorem pv_c12_7 (o : pm_O) : pv_c12 o 7 = o.a7 := rfl
theorem pv_c12_8 (o : pm_O) : pv_c12 o 8 = o.a8 := rfl
theorem pv_c12_9 (o : pm_O) : pv_c12 o 9 = o.a9 := rfl
theorem pv_c12_10 (o : pm_O) : pv_c12 o 10 = o.a10 := rfl
theorem pv_c12_11 (o : pm_O) : pv_c12 o 11 = o.a11 := rfl
theorem pv_c12_o {τ : pm_H} {y : pm_O} (h1 : pm_er τ 85 0 9 (pv_c12 y)) (h2 : pm_er τ 85 9 12 (pv_c12 y)) : pm_o (τ 85) 0 = y := by
  have h : ∀ k : Int, 0 ≤ k → k < 12 → τ 85 k = pv_c12 y k := fun k k1 k2 => by
    by_cases hk : k < 9
    · exact h1 k k1 hk
    · exact h2 k (by omega) k2
  refine pm_O.ext ?_ ?_ ?_ ?_ ?_ ?_ ?_ ?_ ?_ ?_ ?_ ?_
  · exact h 0 (by decide) (by decide)
  · exact h 1 (by decide) (by decide)
  · exact h 2 (by decide) (by decide)
  · exact h 3 (by decide) (by decide)
  · exact h 4 (by decide) (by decide)
  · exact h 5 (by decide) (by decide)
  · exact h 6 (by decide) (by decide)
  · exact h 7 (by decide) (by decide)
  · exact h 8 (by decide) (by decide)
  · exact h 9 (by decide) (by decide)
  · exact h 10 (by decide) (by decide)
  · exact h 11 (by decide) (by decide)
theorem pv_K1 {f A : Int → Int} {d a b : Int} (hb : ¬ b = 0) : ∀ k : Int, 0 ≤ k → k < 9 → pv_we (pv_wd (pv_cf f d) A a) f k = pv_c12 (pv_cj f d b (pm_o A a)) k := by
  unfold pv_cj
  rw [if_neg hb]
  refine pv_k9 ?_ ?_ ?_ ?_ ?_ ?_ ?_ ?_ ?_
  all_goals (simp only [pv_c12_0, pv_c12_1, pv_c12_2, pv_c12_3, pv_c12_4, pv_c12_5, pv_c12_6, pv_c12_7, pv_c12_8, pv_c12_9, pv_c12_10, pv_c12_11, pm_mul_0, pm_mul_1, pm_mul_2, pm_mul_3, pm_mul_4, pm_mul_5, pm_mul_6, pm_mul_7, pm_mul_8, pm_mul_9, pm_mul_10, pm_mul_11, pm_o_0, pm_o_1, pm_o_2, pm_o_3, pm_o_4, pm_o_5, pm_o_6, pm_o_7, pm_o_8, pm_o_9, pm_o_10, pm_o_11, pv_iv_0, pv_iv_1, pv_iv_2, pv_iv_3, pv_iv_4, pv_iv_5, pv_iv_6, pv_iv_7, pv_iv_8, pv_iv_9, pv_iv_10, pv_iv_11]; unfold pv_we pv_wd; simp only [Int.reduceDiv, Int.reduceMod, Int.reduceMul, Int.reduceAdd, Int.zero_add, Int.mul_zero, Int.add_zero, Int.add_assoc, Int.reduceAdd])
  all_goals (grind)
theorem pv_K2 {f A : Int → Int} {d a b : Int} (hb : b = 0) : ∀ k : Int, 0 ≤ k → k < 9 → pv_we (pv_wd f A a) (pv_cf f d) k = pv_c12 (pv_cj f d b (pm_o A a)) k := by
  unfold pv_cj
  rw [if_pos hb]
  refine pv_k9 ?_ ?_ ?_ ?_ ?_ ?_ ?_ ?_ ?_
  all_goals (simp only [pv_c12_0, pv_c12_1, pv_c12_2, pv_c12_3, pv_c12_4, pv_c12_5, pv_c12_6, pv_c12_7, pv_c12_8, pv_c12_9, pv_c12_10, pv_c12_11, pm_mul_0, pm_mul_1, pm_mul_2, pm_mul_3, pm_mul_4, pm_mul_5, pm_mul_6, pm_mul_7, pm_mul_8, pm_mul_9, pm_mul_10, pm_mul_11, pm_o_0, pm_o_1, pm_o_2, pm_o_3, pm_o_4, pm_o_5, pm_o_6, pm_o_7, pm_o_8, pm_o_9, pm_o_10, pm_o_11, pv_iv_0, pv_iv_1, pv_iv_2, pv_iv_3, pv_iv_4, pv_iv_5, pv_iv_6, pv_iv_7, pv_iv_8, pv_iv_9, pv_iv_10, pv_iv_11]; unfold pv_we pv_wd; simp only [Int.reduceDiv, Int.reduceMod, Int.reduceMul, Int.reduceAdd, Int.zero_add, Int.mul_zero, Int.add_zero, Int.add_assoc, Int.reduceAdd])
  all_goals (grind)
def pv_s1 (f A : Int → Int) (a k : Int) : Int := A (a + 9 + k) + A (a + 3 * k) * f 9 + A (a + 3 * k + 1) * f 10 + A (a + 3 * k + 2) * f 11 - f (9 + k)
def pv_s2 (f A W : Int → Int) (a k : Int) : Int := f (3 * k) * A (a + 9) + f (3 * k + 1) * A (a + 10) + f (3 * k + 2) * A (a + 11) + f (9 + k) - W (3 * k) * f 9 - W (3 * k + 1) * f 10 - W (3 * k + 2) * f 11
theorem pv_m24c (x y : Int) : (x + (-y) % 24) % 24 = (x - y) % 24 := by omega
theorem pv_m24d (x y z : Int) : (x + (y + (-z) % 24) % 24) % 24 = (x + y - z) % 24 := by omega
theorem pv_K3 {f A : Int → Int} {d a b : Int} (hb : ¬ b = 0) : ∀ k : Int, 0 ≤ k → k < 3 → (pv_cf f d (3 * k) * pv_s1 f A a 0 + pv_cf f d (3 * k + 1) * pv_s1 f A a 1 + pv_cf f d (3 * k + 2) * pv_s1 f A a 2) % 24 = pv_c12 (pv_cj f d b (pm_o A a)) (9 + k) := by
  unfold pv_cj
  rw [if_neg hb]
  refine pv_k3 ?_ ?_ ?_
  all_goals (simp only [Int.reduceDiv, Int.reduceMod, Int.reduceMul, Int.reduceAdd, Int.zero_add, Int.mul_zero, Int.add_zero, pv_c12_0, pv_c12_1, pv_c12_2, pv_c12_3, pv_c12_4, pv_c12_5, pv_c12_6, pv_c12_7, pv_c12_8, pv_c12_9, pv_c12_10, pv_c12_11, pm_mul_0, pm_mul_1, pm_mul_2, pm_mul_3, pm_mul_4, pm_mul_5, pm_mul_6, pm_mul_7, pm_mul_8, pm_mul_9, pm_mul_10, pm_mul_11, pm_o_0, pm_o_1, pm_o_2, pm_o_3, pm_o_4, pm_o_5, pm_o_6, pm_o_7, pm_o_8, pm_o_9, pm_o_10, pm_o_11, pv_iv_0, pv_iv_1, pv_iv_2, pv_iv_3, pv_iv_4, pv_iv_5, pv_iv_6, pv_iv_7, pv_iv_8, pv_iv_9, pv_iv_10, pv_iv_11]; unfold pv_s1; simp only [Int.reduceDiv, Int.reduceMod, Int.reduceMul, Int.reduceAdd, Int.zero_add, Int.mul_zero, Int.add_zero, Int.add_assoc])
  all_goals (simp only [← Int.add_assoc]; rw [pv_m24d]; congr 1; grind)
theorem pv_K4 {f A : Int → Int} {d a b : Int} (hb : b = 0) : ∀ k : Int, 0 ≤ k → k < 3 → pv_s2 f A (pv_c12 (pv_cj f d b (pm_o A a))) a k % 24 = pv_c12 (pv_cj f d b (pm_o A a)) (9 + k) := by
  unfold pv_cj
  rw [if_pos hb]
  refine pv_k3 ?_ ?_ ?_
  all_goals (unfold pv_s2; simp only [Int.reduceDiv, Int.reduceMod, Int.reduceMul, Int.reduceAdd, Int.zero_add, Int.mul_zero, Int.add_zero, pv_c12_0, pv_c12_1, pv_c12_2, pv_c12_3, pv_c12_4, pv_c12_5, pv_c12_6, pv_c12_7, pv_c12_8, pv_c12_9, pv_c12_10, pv_c12_11, pm_mul_0, pm_mul_1, pm_mul_2, pm_mul_3, pm_mul_4, pm_mul_5, pm_mul_6, pm_mul_7, pm_mul_8, pm_mul_9, pm_mul_10, pm_mul_11, pm_o_0, pm_o_1, pm_o_2, pm_o_3, pm_o_4, pm_o_5, pm_o_6, pm_o_7, pm_o_8, pm_o_9, pm_o_10, pm_o_11, pv_iv_0, pv_iv_1, pv_iv_2, pv_iv_3, pv_iv_4, pv_iv_5, pv_iv_6, pv_iv_7, pv_iv_8, pv_iv_9, pv_iv_10, pv_iv_11, Int.add_assoc])
  all_goals (simp only [← Int.add_assoc]; rw [pm_m24, pm_m24b]; congr 1; grind)
/-- the first rows turned -/
def pv_tn (σ τ : pm_H) (s d b i : Int) : Prop := True → ∀ k : Int, 0 ≤ k → k < i → pm_o (τ 82) (12 * k) = pv_cj (σ 97) d b (pm_o (pm_rk σ s k) 0) ∧ ∀ j : Int, 0 ≤ j → j < 9 → -999 ≤ τ 82 (12 * k + j) ∧ τ 82 (12 * k + j) ≤ 999
theorem pv_tn_0 {σ τ : pm_H} {s d b i : Int} (h : i ≤ 0) : pv_tn σ τ s d b i := fun _ k _ _ => by omega
theorem pv_tn_q {σ τ ρ : pm_H} {s d b i : Int} (h : pv_tn σ τ s d b i) (e : ρ 82 = τ 82) : pv_tn σ ρ s d b i := fun _ => by
  rw [e]
  exact h trivial
theorem pv_tn_p {σ τ ρ : pm_H} {s d b i i' m : Int} (h : pv_tn σ τ s d b i) (hg1 : pm_er τ 85 0 9 (pv_c12 (pv_cj (σ 97) d b (pm_o (pm_rk σ s i) 0)))) (hg2 : pm_er τ 85 9 12 (pv_c12 (pv_cj (σ 97) d b (pm_o (pm_rk σ s i) 0)))) (hr : pm_rg τ 85 0 9 (-999) 999) (hm : m = i) (p1 : pm_er ρ 82 0 (12 * m) (τ 82)) (p2 : pm_er ρ 82 (12 * m) (12 * m + 12) (fun j => τ 85 (j - 12 * m))) (hi : i' = i + 1) : pv_tn σ ρ s d b i' := by
  subst hm hi
  intro _ k k1 k2
  by_cases hk : k = m
  · subst hk
    have e : ∀ j : Int, 0 ≤ j → j < 12 → ρ 82 (12 * k + j) = τ 85 j := fun j j1 j2 => by
      rw [p2 _ (by omega) (by omega)]
      show τ 85 (12 * k + j - 12 * k) = τ 85 j
      congr 1
      omega
    refine ⟨?_, fun j j1 j2 => ?_⟩
    · rw [← pv_c12_o hg1 hg2]
      exact pm_o_congr (fun j j1 j2 => by rw [Int.zero_add]; exact e j j1 j2)
    · rw [e j j1 (by omega)]
      exact hr j j1 j2
  · obtain ⟨g1, g2⟩ := h trivial k k1 (by omega)
    have e : ∀ j : Int, 0 ≤ j → j < 12 → ρ 82 (12 * k + j) = τ 82 (12 * k + j) := fun j j1 j2 => p1 _ (by omega) (by omega)
    refine ⟨?_, fun j j1 j2 => ?_⟩
    · rw [← g1]
      exact pm_o_congr e
    · rw [e j j1 (by omega)]
      exact g2 j j1 j2
theorem pv_tn_e {σ τ : pm_H} {s d b i m : Int} (h : pv_tn σ τ s d b i) (G : pm_Gr (pm_rk σ s) (σ 87 s)) (hd : d = 1 ∨ d = -1) (hf : pm_det (σ 97) 0 = d) (hr : pm_rg σ 97 9 12 0 23) (hi : i = σ 87 s) (hm : m = i) : pm_Sg τ m := by
  subst hm hi
  have h := h trivial
  have hro : pm_red (pm_o (σ 97) 0) := ⟨hr 9 (by omega) (by omega), hr 10 (by omega) (by omega), hr 11 (by omega) (by omega)⟩
  refine ⟨fun k k1 k2 => ?_, ?_, fun x y x1 x2 x3 e => ?_, fun x y x1 x2 y1 y2 => ?_⟩
  · obtain ⟨g1, g2⟩ := h k k1 k2
    have md := G.md k k1 k2
    have u := pv_cj_un (b := b) hd hf md.2.2
    rw [← g1] at u
    refine ⟨fun z hz => ?_, u.2, u.1⟩
    have q0 := g2 0 (by omega) (by omega)
    have q1 := g2 1 (by omega) (by omega)
    have q2 := g2 2 (by omega) (by omega)
    have q3 := g2 3 (by omega) (by omega)
    have q4 := g2 4 (by omega) (by omega)
    have q5 := g2 5 (by omega) (by omega)
    have q6 := g2 6 (by omega) (by omega)
    have q7 := g2 7 (by omega) (by omega)
    have q8 := g2 8 (by omega) (by omega)
    rw [Int.add_zero] at q0
    simp only [pm_o_0, pm_o_1, pm_o_2, pm_o_3, pm_o_4, pm_o_5, pm_o_6, pm_o_7, pm_o_8, pm_o_9, pm_o_10, pm_o_11] at hz
    omega
  · obtain ⟨k, k1, k2, k3⟩ := G.ee
    refine ⟨k, k1, k2, ?_⟩
    rw [(h k k1 k2).1, k3]
    exact pv_cj_e hd hf hro
  · rw [(h x x1 (by omega)).1, (h y (by omega) x3).1] at e
    have e2 := pv_cj_i hd hf (G.md x x1 (by omega)).2.1 (G.md y (by omega) x3).2.1 e
    have := pm_Gr_inj G x1 (by omega) (by omega) x3 e2
    omega
  · obtain ⟨c, c1, c2, c3⟩ := G.cl x y x1 x2 y1 y2
    refine ⟨c, c1, c2, ?_⟩
    rw [(h c c1 c2).1, (h x x1 x2).1, (h y y1 y2).1, c3, pv_cj_mul hd hf]
theorem pv_cmp_lt (a b : Int) : (pm_cmp a b < 0) = (a < b) := by
  unfold pm_cmp
  apply propext
  split
  · omega
  · split <;> omega
theorem pv_cmp_ge (a b : Int) : (0 ≤ pm_cmp a b) = (b ≤ a) := by
  unfold pm_cmp
  apply propext
  split
  · omega
  · split <;> omega
theorem pv_cmp_gt (a b : Int) : (0 < pm_cmp a b) = (b < a) := by
  unfold pm_cmp
  apply propext
  split
  · omega
  · split <;> omega
theorem pv_cmp_le (a b : Int) : (pm_cmp a b ≤ 0) = (a ≤ b) := by
  unfold pm_cmp
  apply propext
  split
  · omega
  · split <;> omega
theorem pv_cmp_eq (a b : Int) : (pm_cmp a b = 0) = (a = b) := by
  unfold pm_cmp
  apply propext
  split
  · omega
  · split <;> omega
theorem pv_s1_64 {f A : Int → Int} {a k : Int} (hf : ∀ k : Int, 9 ≤ k → k < 12 → 0 ≤ f k ∧ f k ≤ 23) (hA : ∀ k : Int, a ≤ k → k < a + 12 → -999 ≤ A k ∧ A k ≤ 999) (k1 : 0 ≤ k) (k2 : k < 3) : w64 (A (a + 9 + k) + A (a + 3 * k) * f 9 + A (a + 3 * k + 1) * f 10 + A (a + 3 * k + 2) * f 11 - f (9 + k)) = pv_s1 f A a k ∧ -1000000 ≤ pv_s1 f A a k ∧ pv_s1 f A a k ≤ 1000000 := by
  have f9 := hf 9 (by omega) (by omega)
  have f10 := hf 10 (by omega) (by omega)
  have f11 := hf 11 (by omega) (by omega)
  have fk := hf (9 + k) (by omega) (by omega)
  have w := hA (a + 9 + k) (by omega) (by omega)
  have a1 := mul_ab (B := 23) (hA (a + 3 * k) (by omega) (by omega)) (y := f 9) (by omega)
  have a2 := mul_ab (B := 23) (hA (a + 3 * k + 1) (by omega) (by omega)) (y := f 10) (by omega)
  have a3 := mul_ab (B := 23) (hA (a + 3 * k + 2) (by omega) (by omega)) (y := f 11) (by omega)
  unfold pv_s1
  exact ⟨w64_id (by omega), by omega, by omega⟩
theorem pv_s2_64 {f A W : Int → Int} {a k : Int} (hf : ∀ k : Int, 9 ≤ k → k < 12 → 0 ≤ f k ∧ f k ≤ 23) (hf0 : ∀ k : Int, 0 ≤ k → k < 9 → -9 ≤ f k ∧ f k ≤ 9) (hA : ∀ k : Int, a ≤ k → k < a + 12 → -999 ≤ A k ∧ A k ≤ 999) (hW : ∀ k : Int, 0 ≤ k → k < 9 → -1000000000 ≤ W k ∧ W k ≤ 1000000000) (k1 : 0 ≤ k) (k2 : k < 3) : w64 (f (3 * k) * A (a + 9) + f (3 * k + 1) * A (a + 10) + f (3 * k + 2) * A (a + 11) + f (9 + k) - W (3 * k) * f 9 - W (3 * k + 1) * f 10 - W (3 * k + 2) * f 11) = pv_s2 f A W a k := by
  have f9 := hf 9 (by omega) (by omega)
  have f10 := hf 10 (by omega) (by omega)
  have f11 := hf 11 (by omega) (by omega)
  have fk := hf (9 + k) (by omega) (by omega)
  have a1 := mul_ab (hf0 (3 * k) (by omega) (by omega)) (hA (a + 9) (by omega) (by omega))
  have a2 := mul_ab (hf0 (3 * k + 1) (by omega) (by omega)) (hA (a + 10) (by omega) (by omega))
  have a3 := mul_ab (hf0 (3 * k + 2) (by omega) (by omega)) (hA (a + 11) (by omega) (by omega))
  have b1 := mul_ab (B := 23) (hW (3 * k) (by omega) (by omega)) (y := f 9) (by omega)
  have b2 := mul_ab (B := 23) (hW (3 * k + 1) (by omega) (by omega)) (y := f 10) (by omega)
  have b3 := mul_ab (B := 23) (hW (3 * k + 2) (by omega) (by omega)) (y := f 11) (by omega)
  unfold pv_s2
  exact w64_id (by omega)
theorem pv_we_rg {f g : Int → Int} {k : Int} (hf : ∀ k : Int, 0 ≤ k → k < 9 → -1000000 ≤ f k ∧ f k ≤ 1000000) (hg : ∀ k : Int, 0 ≤ k → k < 9 → -162 ≤ g k ∧ g k ≤ 162) (k1 : 0 ≤ k) (k2 : k < 9) : -1000000000 ≤ pv_we f g k ∧ pv_we f g k ≤ 1000000000 := by
  unfold pv_we
  have a1 := mul_ab (hf (3 * (k / 3)) (by omega) (by omega)) (hg (k % 3) (by omega) (by omega))
  have a2 := mul_ab (hf (3 * (k / 3) + 1) (by omega) (by omega)) (hg (3 + k % 3) (by omega) (by omega))
  have a3 := mul_ab (hf (3 * (k / 3) + 2) (by omega) (by omega)) (hg (6 + k % 3) (by omega) (by omega))
  omega
theorem pv_we_cg {f f' g g' : Int → Int} {k : Int} (hf : ∀ k : Int, 0 ≤ k → k < 9 → f k = f' k) (hg : ∀ k : Int, 0 ≤ k → k < 9 → g k = g' k) (k1 : 0 ≤ k) (k2 : k < 9) : pv_we f g k = pv_we f' g' k := by
  unfold pv_we
  rw [hf _ (by omega) (by omega), hf _ (by omega) (by omega), hf _ (by omega) (by omega), hg _ (by omega) (by omega), hg _ (by omega) (by omega), hg _ (by omega) (by omega)]
theorem pv_wd_cg {f f' g : Int → Int} {a k : Int} (hf : ∀ k : Int, 0 ≤ k → k < 9 → f k = f' k) (k1 : 0 ≤ k) (k2 : k < 9) : pv_wd f g a k = pv_wd f' g a k := by
  unfold pv_wd
  rw [hf _ (by omega) (by omega), hf _ (by omega) (by omega), hf _ (by omega) (by omega)]
theorem pv_rk_f (σ : pm_H) (s i : Int) : pm_o (pm_rk σ s i) 0 = pm_o (σ 86) (4608 * s + 12 * i) := pm_o_congr (fun j _ _ => by
  rw [Int.zero_add]
  rfl)
theorem pv_Y1 {σ τ ρ : pm_H} {d b s i a : Int} (e8 : pm_er τ 98 0 9 (pv_cf (σ 97) d)) (e7 : τ 97 = σ 97) (e6 : τ 86 = σ 86) (hb : ¬ b = 0) (ha : a = 4608 * s + 12 * i) (h : pm_er ρ 100 0 9 (pv_we (pv_wd (τ 98) (τ 86) a) (τ 97))) : pm_er ρ 100 0 9 (pv_c12 (pv_cj (σ 97) d b (pm_o (pm_rk σ s i) 0))) := by
  intro k k1 k2
  rw [h k k1 k2, e7, e6, pv_rk_f, ← ha, ← pv_K1 hb k k1 k2]
  exact pv_we_cg (fun k k1 k2 => pv_wd_cg e8 k1 k2) (fun k k1 k2 => rfl) k1 k2
theorem pv_Y2 {σ τ ρ : pm_H} {d b s i a : Int} (e8 : pm_er τ 98 0 9 (pv_cf (σ 97) d)) (e7 : τ 97 = σ 97) (e6 : τ 86 = σ 86) (hb : b = 0) (ha : a = 4608 * s + 12 * i) (h : pm_er ρ 100 0 9 (pv_we (pv_wd (τ 97) (τ 86) a) (τ 98))) : pm_er ρ 100 0 9 (pv_c12 (pv_cj (σ 97) d b (pm_o (pm_rk σ s i) 0))) := by
  intro k k1 k2
  rw [h k k1 k2, e7, e6, pv_rk_f, ← ha, ← pv_K2 hb k k1 k2]
  exact pv_we_cg (fun k k1 k2 => rfl) e8 k1 k2
theorem pv_Y3 {σ τ : pm_H} {d b s i a k r1 r2 : Int} (e8 : pm_er τ 98 0 9 (pv_cf (σ 97) d)) (hd : d = 1 ∨ d = -1) (B1 : pm_rg σ 97 0 9 (-9) 9) (B2 : pm_rg σ 97 9 12 0 23) (hA : ∀ k : Int, a ≤ k → k < a + 12 → -999 ≤ σ 86 k ∧ σ 86 k ≤ 999) (hb : ¬ b = 0) (ha : a = 4608 * s + 12 * i) (h : pm_er τ 101 0 3 (pv_s1 (σ 97) (σ 86) a)) (k1 : 0 ≤ k) (k2 : k < 3) (q2 : r2 = r1 % 24) (q1 : r1 = w64 (τ 98 (3 * k) * τ 101 0 + τ 98 (3 * k + 1) * τ 101 1 + τ 98 (3 * k + 2) * τ 101 2)) : r2 = pv_c12 (pv_cj (σ 97) d b (pm_o (pm_rk σ s i) 0)) (9 + k) := by
  rw [q2, q1, e8 _ (by omega) (by omega), e8 _ (by omega) (by omega), e8 _ (by omega) (by omega), h 0 (by omega) (by omega), h 1 (by omega) (by omega), h 2 (by omega) (by omega), pv_rk_f, ← ha, ← pv_K3 hb k k1 k2]
  have b := fun z z1 z2 => (pv_s1_64 B2 hA (k := z) z1 z2).2
  have c := fun z z1 z2 => pv_cf_rg (k := z) B1 hd z1 z2
  have c0 := c (3 * k) (by omega) (by omega)
  have c1 := c (3 * k + 1) (by omega) (by omega)
  have c2 := c (3 * k + 2) (by omega) (by omega)
  rw [pv_64 (by omega) (b 0 (by omega) (by omega)) (by omega) (b 1 (by omega) (by omega)) (by omega) (b 2 (by omega) (by omega))]
theorem pv_Y4 {σ τ : pm_H} {d b s i a k r2 : Int} (hb : b = 0) (ha : a = 4608 * s + 12 * i) (h : pm_er τ 101 0 3 (pv_s2 (σ 97) (σ 86) (pv_c12 (pv_cj (σ 97) d b (pm_o (pm_rk σ s i) 0))) a)) (k1 : 0 ≤ k) (k2 : k < 3) (q2 : r2 = τ 101 k % 24) : r2 = pv_c12 (pv_cj (σ 97) d b (pm_o (pm_rk σ s i) 0)) (9 + k) := by
  rw [q2, h k k1 (by omega), pv_rk_f, ← ha]
  exact pv_K4 hb k k1 k2
theorem pv_dq {σ τ : pm_H} {r : Int} (h : r = w32 (pm_det (τ 97) 0)) (e : τ 97 = σ 97) (dw : w32 (pm_det (σ 97) 0) = pm_det (σ 97) 0) : pm_det (σ 97) 0 = r := by
  rw [h, e, dw]
/-- the numbers of a row -/
theorem pv_rk_999 {σ : pm_H} {s n i : Int} (G : pm_Gr (pm_rk σ s) n) (i1 : 0 ≤ i) (i2 : i < n) : ∀ k : Int, 4608 * s + 12 * i ≤ k → k < 4608 * s + 12 * i + 12 → -999 ≤ σ 86 k ∧ σ 86 k ≤ 999 := by
  intro k k1 k2
  have md := G.md i i1 i2
  obtain ⟨m1, ⟨m2, m3, m4⟩, -⟩ := md
  rw [pv_rk_f] at m1 m2 m3 m4
  simp only [pm_o_0, pm_o_1, pm_o_2, pm_o_3, pm_o_4, pm_o_5, pm_o_6, pm_o_7, pm_o_8, pm_o_9, pm_o_10, pm_o_11] at m1 m2 m3 m4
  rcases (by omega : k = 4608 * s + 12 * i ∨ k = 4608 * s + 12 * i + 1 ∨ k = 4608 * s + 12 * i + 2 ∨ k = 4608 * s + 12 * i + 3 ∨ k = 4608 * s + 12 * i + 4 ∨ k = 4608 * s + 12 * i + 5 ∨ k = 4608 * s + 12 * i + 6 ∨ k = 4608 * s + 12 * i + 7 ∨ k = 4608 * s + 12 * i + 8 ∨ k = 4608 * s + 12 * i + 9 ∨ k = 4608 * s + 12 * i + 10 ∨ k = 4608 * s + 12 * i + 11) with h | h | h | h | h | h | h | h | h | h | h | h <;> rw [h] <;> first | (exact m1 _ (by simp)) | omega
end TRN
