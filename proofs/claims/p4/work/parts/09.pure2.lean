section AXP2
theorem ax_dvq {x y : Int} (hy : 1 ≤ y) : (0 ≤ x → x.tdiv y = x / y ∧ 0 ≤ x / y ∧ x / y * y ≤ x ∧ x - x / y * y ≤ y - 1 ∧ x / y ≤ x) ∧ (x < 0 → x.tdiv y = -((-x) / y)) := by
  refine ⟨fun hx => ?_, fun hx => ?_⟩
  · have h1 : x.tdiv y = x / y := Int.tdiv_eq_ediv_of_nonneg hx
    have h2 : 0 ≤ x / y := Int.ediv_nonneg hx (by omega)
    have h3 := Int.emod_nonneg x (show y ≠ 0 by omega)
    have h4 := Int.emod_lt_of_pos x (show 0 < y by omega)
    have h5 := Int.emod_def x y
    rw [Int.mul_comm] at h5
    have h6 : x / y * 1 ≤ x / y * y := Int.mul_le_mul_of_nonneg_left hy h2
    exact ⟨h1, h2, by omega, by omega, by omega⟩
  · have h1 : (-(-x)).tdiv y = -((-x).tdiv y) := Int.neg_tdiv ..
    rw [Int.neg_neg] at h1
    rw [h1, Int.tdiv_eq_ediv_of_nonneg (by omega)]
theorem ax_div_ok {γ : Nat → Int} {a b z : ax_N} {x y : Int32} (h : ax_div a b = some z) (ha : ax_nok γ a x.toInt) (hb : ax_nok γ b y.toInt) : ax_nok γ z (x / y).toInt := by
  obtain ⟨⟨a1, a2⟩, -⟩ := ha
  obtain ⟨⟨b1, b2⟩, -⟩ := hb
  unfold ax_div at h
  split at h
  · rename_i hb1
    have hd := ax_dvq (x := x.toInt) (y := y.toInt) (by omega)
    split at h
    · rename_i ha1
      cases h
      obtain ⟨h1, h2, h3, h4, h5⟩ := hd.1 (by omega)
      refine ax_fitN_ok (z := x.toInt.tdiv y.toInt) (Int32.toInt_div x y) ?_ (fun _ _ h => by cases h)
      rw [h1]
      refine ⟨h2, ?_⟩
      rw [Int.le_ediv_iff_mul_le (by omega)]
      have h6 : x.toInt / y.toInt * b.1.1 ≤ x.toInt / y.toInt * y.toInt := Int.mul_le_mul_of_nonneg_left b1 h2
      omega
    · cases h
      refine ax_fitN_ok (z := x.toInt.tdiv y.toInt) (Int32.toInt_div x y) ?_ (fun _ _ h => by cases h)
      by_cases hx : 0 ≤ x.toInt
      · obtain ⟨h1, h2, h3, h4, h5⟩ := hd.1 hx
        rw [h1]
        omega
      · have h1 := hd.2 (by omega)
        obtain ⟨-, h2, h3, h4, h5⟩ := (ax_dvq (x := -x.toInt) (y := y.toInt) (by omega)).1 (by omega)
        rw [h1]
        omega
  · split at h
    · cases h
      exact ax_topN_ok γ _
    · cases h
theorem ax_div_ne {γ : Nat → Int} {a b z : ax_N} {y : Int32} (h : ax_div a b = some z) (hb : ax_nok γ b y.toInt) : ¬ y = 0 := by
  intro hy
  subst hy
  have h0 : (0 : Int32).toInt = 0 := by decide
  obtain ⟨⟨b1, b2⟩, -⟩ := hb
  unfold ax_div at h
  split at h
  · omega
  · split at h
    · omega
    · cases h
theorem ax_rem_ne {γ : Nat → Int} {a b z : ax_N} {y : Int32} (h : ax_rem a b = some z) (hb : ax_nok γ b y.toInt) : ¬ y = 0 := by
  intro hy
  subst hy
  have h0 : (0 : Int32).toInt = 0 := by decide
  obtain ⟨⟨b1, b2⟩, -⟩ := hb
  unfold ax_rem at h
  split at h
  · omega
  · split at h
    · omega
    · cases h
theorem ax_rem_int {x y : Int32} (hy : 1 ≤ y.toInt) : (x - x / y * y).toInt = x.toInt - x.toInt.tdiv y.toInt * y.toInt ∧ (0 ≤ x.toInt → 0 ≤ x.toInt - x.toInt.tdiv y.toInt * y.toInt ∧ x.toInt - x.toInt.tdiv y.toInt * y.toInt ≤ x.toInt) ∧ -(y.toInt - 1) ≤ x.toInt - x.toInt.tdiv y.toInt * y.toInt ∧ x.toInt - x.toInt.tdiv y.toInt * y.toInt ≤ y.toInt - 1 := by
  have hx := ax_lt x
  have hyl := ax_lt y
  have hd := ax_dvq (x := x.toInt) (y := y.toInt) hy
  have key : (-2147483648 ≤ x.toInt.tdiv y.toInt ∧ x.toInt.tdiv y.toInt ≤ 2147483647) ∧ (-2147483648 ≤ x.toInt.tdiv y.toInt * y.toInt ∧ x.toInt.tdiv y.toInt * y.toInt ≤ 2147483647) ∧ (0 ≤ x.toInt → 0 ≤ x.toInt - x.toInt.tdiv y.toInt * y.toInt ∧ x.toInt - x.toInt.tdiv y.toInt * y.toInt ≤ x.toInt) ∧ -(y.toInt - 1) ≤ x.toInt - x.toInt.tdiv y.toInt * y.toInt ∧ x.toInt - x.toInt.tdiv y.toInt * y.toInt ≤ y.toInt - 1 := by
    by_cases h : 0 ≤ x.toInt
    · obtain ⟨h1, h2, h3, h4, h5⟩ := hd.1 h
      have h6 : 0 ≤ x.toInt / y.toInt * y.toInt := Int.mul_nonneg h2 (by omega)
      rw [h1]
      omega
    · have h1 := hd.2 (by omega)
      obtain ⟨-, h2, h3, h4, h5⟩ := (ax_dvq (x := -x.toInt) (y := y.toInt) hy).1 (by omega)
      have h6 : 0 ≤ -x.toInt / y.toInt * y.toInt := Int.mul_nonneg h2 (by omega)
      rw [h1, Int.neg_mul]
      omega
  obtain ⟨k1, k2, k3, k4, k5⟩ := key
  refine ⟨?_, k3, k4, k5⟩
  rw [Int32.toInt_sub, Int32.toInt_mul, Int32.toInt_div, ax_bmod k1.1 k1.2, ax_bmod k2.1 k2.2, ax_bmod (by omega) (by omega)]
theorem ax_rem_ok {γ : Nat → Int} {a b z : ax_N} {x y : Int32} (h : ax_rem a b = some z) (ha : ax_nok γ a x.toInt) (hb : ax_nok γ b y.toInt) : ax_nok γ z (x - x / y * y).toInt := by
  obtain ⟨⟨a1, a2⟩, -⟩ := ha
  obtain ⟨⟨b1, b2⟩, -⟩ := hb
  unfold ax_rem at h
  split at h
  · rename_i hb1
    obtain ⟨h1, h2, h3, h4⟩ := ax_rem_int (x := x) (y := y) (by omega)
    have hbm : (x - x / y * y).toInt = (x.toInt - x.toInt.tdiv y.toInt * y.toInt).bmod (2 ^ 32) := by
      rw [ax_bmod (by have := ax_lt y; omega) (by have := ax_lt y; omega)]
      exact h1
    split at h
    · split at h
      · rename_i hcc
        cases h
        have e1 : x.toInt = a.1.1 := by omega
        have e2 : y.toInt = b.1.1 := by omega
        have e3 := ((ax_dvq (x := x.toInt) (y := y.toInt) (by omega)).1 (by omega)).1
        have e4 := Int.emod_def x.toInt y.toInt
        rw [Int.mul_comm] at e4
        refine ⟨?_, fun _ _ h => by cases h⟩
        dsimp only
        rw [← e1, ← e2, h1, e3, ← e4]
        exact ⟨Int.le_refl _, Int.le_refl _⟩
      · cases h
        refine ax_fitN_ok (z := x.toInt - x.toInt.tdiv y.toInt * y.toInt) hbm ?_ (fun _ _ h => by cases h)
        have := h2 (by omega)
        omega
    · cases h
      refine ax_fitN_ok (z := x.toInt - x.toInt.tdiv y.toInt * y.toInt) hbm ?_ (fun _ _ h => by cases h)
      omega
  · split at h
    · cases h
      exact ax_topN_ok γ _
    · cases h
theorem ax_andn {x y : Int32} (hy : 0 ≤ y.toInt) : 0 ≤ (x &&& y).toInt ∧ (x &&& y).toInt ≤ y.toInt := by
  have e1 : ∀ z : Int32, z.toInt = z.toBitVec.toInt := fun _ => rfl
  have e2 : (x &&& y).toBitVec = x.toBitVec &&& y.toBitVec := rfl
  rw [e1] at hy ⊢
  rw [e1, e2]
  rw [BitVec.toInt_eq_toNat_cond] at hy ⊢
  rw [BitVec.toInt_eq_toNat_cond]
  have h3 : (x.toBitVec &&& y.toBitVec).toNat ≤ y.toBitVec.toNat := by
    rw [BitVec.toNat_and]
    exact Nat.and_le_right
  have h4 := y.toBitVec.isLt
  clear e1 e2
  generalize (x.toBitVec &&& y.toBitVec).toNat = u at *
  generalize y.toBitVec.toNat = w at *
  split at hy <;> split <;> omega
theorem ax_and_ok {γ : Nat → Int} {a b : ax_N} {x y : Int32} (ha : ax_nok γ a x.toInt) (hb : ax_nok γ b y.toInt) : ax_nok γ (ax_and a b) (x &&& y).toInt := by
  obtain ⟨⟨a1, a2⟩, -⟩ := ha
  obtain ⟨⟨b1, b2⟩, -⟩ := hb
  unfold ax_and
  split
  · have := ax_andn (x := x) (y := y) (by omega)
    exact ⟨⟨this.1, by show _ ≤ b.1.2; omega⟩, fun _ _ h => by cases h⟩
  · split
    · have := ax_andn (x := y) (y := x) (by omega)
      rw [show x &&& y = y &&& x from Int32.and_comm ..]
      exact ⟨⟨this.1, by show _ ≤ a.1.2; omega⟩, fun _ _ h => by cases h⟩
    · exact ax_topN_ok γ _
end AXP2
