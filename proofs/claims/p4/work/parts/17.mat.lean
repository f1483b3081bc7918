/-! three by three matrices of whole numbers, their products, and products that are alike modulo 4294967296 -/
section PCM
abbrev pc_M : Type := Int × Int × Int × Int × Int × Int × Int × Int × Int
def pc_mul (x y : pc_M) : pc_M := (x.1 * y.1 + x.2.1 * y.2.2.2.1 + x.2.2.1 * y.2.2.2.2.2.2.1, x.1 * y.2.1 + x.2.1 * y.2.2.2.2.1 + x.2.2.1 * y.2.2.2.2.2.2.2.1, x.1 * y.2.2.1 + x.2.1 * y.2.2.2.2.2.1 + x.2.2.1 * y.2.2.2.2.2.2.2.2, x.2.2.2.1 * y.1 + x.2.2.2.2.1 * y.2.2.2.1 + x.2.2.2.2.2.1 * y.2.2.2.2.2.2.1, x.2.2.2.1 * y.2.1 + x.2.2.2.2.1 * y.2.2.2.2.1 + x.2.2.2.2.2.1 * y.2.2.2.2.2.2.2.1, x.2.2.2.1 * y.2.2.1 + x.2.2.2.2.1 * y.2.2.2.2.2.1 + x.2.2.2.2.2.1 * y.2.2.2.2.2.2.2.2, x.2.2.2.2.2.2.1 * y.1 + x.2.2.2.2.2.2.2.1 * y.2.2.2.1 + x.2.2.2.2.2.2.2.2 * y.2.2.2.2.2.2.1, x.2.2.2.2.2.2.1 * y.2.1 + x.2.2.2.2.2.2.2.1 * y.2.2.2.2.1 + x.2.2.2.2.2.2.2.2 * y.2.2.2.2.2.2.2.1, x.2.2.2.2.2.2.1 * y.2.2.1 + x.2.2.2.2.2.2.2.1 * y.2.2.2.2.2.1 + x.2.2.2.2.2.2.2.2 * y.2.2.2.2.2.2.2.2)
def pc_1 : pc_M := (1, 0, 0, 0, 1, 0, 0, 0, 1)
def pc_neg (x : pc_M) : pc_M := (-x.1, -x.2.1, -x.2.2.1, -x.2.2.2.1, -x.2.2.2.2.1, -x.2.2.2.2.2.1, -x.2.2.2.2.2.2.1, -x.2.2.2.2.2.2.2.1, -x.2.2.2.2.2.2.2.2)
def pc_T (x : pc_M) : pc_M := (x.1, x.2.2.2.1, x.2.2.2.2.2.2.1, x.2.1, x.2.2.2.2.1, x.2.2.2.2.2.2.2.1, x.2.2.1, x.2.2.2.2.2.1, x.2.2.2.2.2.2.2.2)
def pc_dt (x : pc_M) : Int := x.1 * (x.2.2.2.2.1 * x.2.2.2.2.2.2.2.2 - x.2.2.2.2.2.1 * x.2.2.2.2.2.2.2.1) - x.2.1 * (x.2.2.2.1 * x.2.2.2.2.2.2.2.2 - x.2.2.2.2.2.1 * x.2.2.2.2.2.2.1) + x.2.2.1 * (x.2.2.2.1 * x.2.2.2.2.2.2.2.1 - x.2.2.2.2.1 * x.2.2.2.2.2.2.1)
def pc_adj (x : pc_M) : pc_M := (x.2.2.2.2.1 * x.2.2.2.2.2.2.2.2 - x.2.2.2.2.2.1 * x.2.2.2.2.2.2.2.1, x.2.2.1 * x.2.2.2.2.2.2.2.1 - x.2.1 * x.2.2.2.2.2.2.2.2, x.2.1 * x.2.2.2.2.2.1 - x.2.2.1 * x.2.2.2.2.1, x.2.2.2.2.2.1 * x.2.2.2.2.2.2.1 - x.2.2.2.1 * x.2.2.2.2.2.2.2.2, x.1 * x.2.2.2.2.2.2.2.2 - x.2.2.1 * x.2.2.2.2.2.2.1, x.2.2.1 * x.2.2.2.1 - x.1 * x.2.2.2.2.2.1, x.2.2.2.1 * x.2.2.2.2.2.2.2.1 - x.2.2.2.2.1 * x.2.2.2.2.2.2.1, x.2.1 * x.2.2.2.2.2.2.1 - x.1 * x.2.2.2.2.2.2.2.1, x.1 * x.2.2.2.2.1 - x.2.1 * x.2.2.2.1)
def pc_tr (x : pc_M) : Int := x.1 + x.2.2.2.2.1 + x.2.2.2.2.2.2.2.2
def pc_s2 (x : pc_M) : Int := x.1 * x.2.2.2.2.1 - x.2.1 * x.2.2.2.1 + (x.1 * x.2.2.2.2.2.2.2.2 - x.2.2.1 * x.2.2.2.2.2.2.1) + (x.2.2.2.2.1 * x.2.2.2.2.2.2.2.2 - x.2.2.2.2.2.1 * x.2.2.2.2.2.2.2.1)
theorem pc_assoc (x y z : pc_M) : pc_mul (pc_mul x y) z = pc_mul x (pc_mul y z) := by
  obtain ⟨a1, a2, a3, a4, a5, a6, a7, a8, a9⟩ := x
  obtain ⟨b1, b2, b3, b4, b5, b6, b7, b8, b9⟩ := y
  obtain ⟨c1, c2, c3, c4, c5, c6, c7, c8, c9⟩ := z
  simp only [pc_mul, Prod.mk.injEq]
  refine ⟨?_, ?_, ?_, ?_, ?_, ?_, ?_, ?_, ?_⟩ <;> grind
theorem pc_one_mul (x : pc_M) : pc_mul pc_1 x = x := by
  obtain ⟨a1, a2, a3, a4, a5, a6, a7, a8, a9⟩ := x
  simp only [pc_mul, pc_1, Prod.mk.injEq]
  refine ⟨?_, ?_, ?_, ?_, ?_, ?_, ?_, ?_, ?_⟩ <;> grind
theorem pc_mul_one (x : pc_M) : pc_mul x pc_1 = x := by
  obtain ⟨a1, a2, a3, a4, a5, a6, a7, a8, a9⟩ := x
  simp only [pc_mul, pc_1, Prod.mk.injEq]
  refine ⟨?_, ?_, ?_, ?_, ?_, ?_, ?_, ?_, ?_⟩ <;> grind
theorem pc_T_mul (x y : pc_M) : pc_T (pc_mul x y) = pc_mul (pc_T y) (pc_T x) := by
  obtain ⟨a1, a2, a3, a4, a5, a6, a7, a8, a9⟩ := x
  obtain ⟨b1, b2, b3, b4, b5, b6, b7, b8, b9⟩ := y
  simp only [pc_mul, pc_T, Prod.mk.injEq]
  refine ⟨?_, ?_, ?_, ?_, ?_, ?_, ?_, ?_, ?_⟩ <;> grind
theorem pc_T_T (x : pc_M) : pc_T (pc_T x) = x := rfl
theorem pc_T_1 : pc_T pc_1 = pc_1 := rfl
theorem pc_neg_mul (x y : pc_M) : pc_mul (pc_neg x) y = pc_neg (pc_mul x y) := by
  obtain ⟨a1, a2, a3, a4, a5, a6, a7, a8, a9⟩ := x
  obtain ⟨b1, b2, b3, b4, b5, b6, b7, b8, b9⟩ := y
  simp only [pc_mul, pc_neg, Prod.mk.injEq]
  refine ⟨?_, ?_, ?_, ?_, ?_, ?_, ?_, ?_, ?_⟩ <;> grind
theorem pc_mul_neg (x y : pc_M) : pc_mul x (pc_neg y) = pc_neg (pc_mul x y) := by
  obtain ⟨a1, a2, a3, a4, a5, a6, a7, a8, a9⟩ := x
  obtain ⟨b1, b2, b3, b4, b5, b6, b7, b8, b9⟩ := y
  simp only [pc_mul, pc_neg, Prod.mk.injEq]
  refine ⟨?_, ?_, ?_, ?_, ?_, ?_, ?_, ?_, ?_⟩ <;> grind
theorem pc_neg_neg (x : pc_M) : pc_neg (pc_neg x) = x := by
  obtain ⟨a1, a2, a3, a4, a5, a6, a7, a8, a9⟩ := x
  simp only [pc_neg, Prod.mk.injEq]
  refine ⟨?_, ?_, ?_, ?_, ?_, ?_, ?_, ?_, ?_⟩ <;> grind
theorem pc_dt_mul (x y : pc_M) : pc_dt (pc_mul x y) = pc_dt x * pc_dt y := by
  obtain ⟨a1, a2, a3, a4, a5, a6, a7, a8, a9⟩ := x
  obtain ⟨b1, b2, b3, b4, b5, b6, b7, b8, b9⟩ := y
  simp only [pc_mul, pc_dt, Prod.mk.injEq]
  grind
theorem pc_dt_neg (x : pc_M) : pc_dt (pc_neg x) = - pc_dt x := by
  obtain ⟨a1, a2, a3, a4, a5, a6, a7, a8, a9⟩ := x
  simp only [pc_neg, pc_dt, Prod.mk.injEq]
  grind
theorem pc_dt_T (x : pc_M) : pc_dt (pc_T x) = pc_dt x := by
  obtain ⟨a1, a2, a3, a4, a5, a6, a7, a8, a9⟩ := x
  simp only [pc_T, pc_dt, Prod.mk.injEq]
  grind
theorem pc_dt_1 : pc_dt pc_1 = 1 := by decide
theorem pc_adj_mul {x : pc_M} (h : pc_dt x = 1) : pc_mul (pc_adj x) x = pc_1 := by
  obtain ⟨a1, a2, a3, a4, a5, a6, a7, a8, a9⟩ := x
  simp only [pc_dt] at h
  simp only [pc_mul, pc_adj, pc_1, Prod.mk.injEq]
  refine ⟨?_, ?_, ?_, ?_, ?_, ?_, ?_, ?_, ?_⟩ <;> grind
theorem pc_mul_adj {x : pc_M} (h : pc_dt x = 1) : pc_mul x (pc_adj x) = pc_1 := by
  obtain ⟨a1, a2, a3, a4, a5, a6, a7, a8, a9⟩ := x
  simp only [pc_dt] at h
  simp only [pc_mul, pc_adj, pc_1, Prod.mk.injEq]
  refine ⟨?_, ?_, ?_, ?_, ?_, ?_, ?_, ?_, ?_⟩ <;> grind
theorem pc_tr_adj (x : pc_M) : pc_tr (pc_adj x) = pc_s2 x := by
  obtain ⟨a1, a2, a3, a4, a5, a6, a7, a8, a9⟩ := x
  simp only [pc_tr, pc_adj, pc_s2, Prod.mk.injEq]
  grind
theorem pc_s2_adj (x : pc_M) : pc_s2 (pc_adj x) = pc_dt x * pc_tr x := by
  obtain ⟨a1, a2, a3, a4, a5, a6, a7, a8, a9⟩ := x
  simp only [pc_tr, pc_adj, pc_s2, pc_dt, Prod.mk.injEq]
  grind
def pc_U (x : pc_M) : Prop := pc_dt x = 1 ∨ pc_dt x = -1
theorem pc_inv {x : pc_M} (h : pc_U x) : ∃ y, pc_mul x y = pc_1 ∧ pc_mul y x = pc_1 := by
  cases h with
  | inl h => exact ⟨pc_adj x, pc_mul_adj h, pc_adj_mul h⟩
  | inr h =>
    have h' : pc_dt (pc_neg x) = 1 := by rw [pc_dt_neg, h]; rfl
    refine ⟨pc_neg (pc_adj (pc_neg x)), ?_, ?_⟩
    · have e := pc_mul_adj h'
      rw [pc_neg_mul] at e
      rw [pc_mul_neg]
      exact e
    · have e := pc_adj_mul h'
      rw [pc_mul_neg] at e
      rw [pc_neg_mul]
      exact e
theorem pc_U_mul {x y : pc_M} (h : pc_U x) (k : pc_U y) : pc_U (pc_mul x y) := by
  unfold pc_U at *
  rw [pc_dt_mul]
  rcases h with h | h <;> rcases k with k | k <;> rw [h, k] <;> decide
theorem pc_U_1 : pc_U pc_1 := Or.inl pc_dt_1
def pc_pow (x : pc_M) : Nat → pc_M
  | 0 => pc_1
  | n + 1 => pc_mul x (pc_pow x n)
theorem pc_pow_one (x : pc_M) : pc_pow x 1 = x := pc_mul_one x
theorem pc_pow_add (x : pc_M) : ∀ m n, pc_pow x (m + n) = pc_mul (pc_pow x m) (pc_pow x n)
  | 0, n => by
    rw [Nat.zero_add]
    exact (pc_one_mul _).symm
  | m + 1, n => by
    have e : m + 1 + n = (m + n) + 1 := by omega
    rw [e]
    show pc_mul x (pc_pow x (m + n)) = pc_mul (pc_mul x (pc_pow x m)) (pc_pow x n)
    rw [pc_pow_add x m n, pc_assoc]
theorem pc_pow_mul (x : pc_M) (m : Nat) : ∀ n, pc_pow x (m * n) = pc_pow (pc_pow x m) n
  | 0 => rfl
  | n + 1 => by
    have e : m * (n + 1) = m + m * n := by rw [Nat.mul_add, Nat.mul_one, Nat.add_comm]
    rw [e, pc_pow_add, pc_pow_mul x m n]
    rfl
theorem pc_pow_1 : ∀ n, pc_pow pc_1 n = pc_1
  | 0 => rfl
  | n + 1 => by
    show pc_mul pc_1 (pc_pow pc_1 n) = pc_1
    rw [pc_pow_1 n]
    exact pc_one_mul _
theorem pc_pow_cm {x y : pc_M} (h : pc_mul x y = pc_mul y x) : ∀ n, pc_mul x (pc_pow y n) = pc_mul (pc_pow y n) x
  | 0 => by
    show pc_mul x pc_1 = pc_mul pc_1 x
    rw [pc_one_mul, pc_mul_one]
  | n + 1 => by
    show pc_mul x (pc_mul y (pc_pow y n)) = pc_mul (pc_mul y (pc_pow y n)) x
    rw [← pc_assoc, h, pc_assoc, pc_pow_cm h n, ← pc_assoc]
theorem pc_pow_mulc {x y : pc_M} (h : pc_mul x y = pc_mul y x) : ∀ n, pc_pow (pc_mul x y) n = pc_mul (pc_pow x n) (pc_pow y n)
  | 0 => by
    show pc_1 = pc_mul pc_1 pc_1
    rw [pc_one_mul]
  | n + 1 => by
    show pc_mul (pc_mul x y) (pc_pow (pc_mul x y) n) = pc_mul (pc_mul x (pc_pow x n)) (pc_mul y (pc_pow y n))
    rw [pc_pow_mulc h n, pc_assoc, pc_assoc, ← pc_assoc y, pc_pow_cm h.symm n, pc_assoc]
theorem pc_U_pow {x : pc_M} (h : pc_U x) : ∀ n, pc_U (pc_pow x n)
  | 0 => pc_U_1
  | n + 1 => pc_U_mul h (pc_U_pow h n)
def pc_md (x : pc_M) : pc_M := (x.1 % 4294967296, x.2.1 % 4294967296, x.2.2.1 % 4294967296, x.2.2.2.1 % 4294967296, x.2.2.2.2.1 % 4294967296, x.2.2.2.2.2.1 % 4294967296, x.2.2.2.2.2.2.1 % 4294967296, x.2.2.2.2.2.2.2.1 % 4294967296, x.2.2.2.2.2.2.2.2 % 4294967296)
def pc_cg (x y : pc_M) : Prop := pc_md x = pc_md y
theorem pc_e3 (a b c d e f : Int) : (a * d + b * e + c * f) % 4294967296 = ((a % 4294967296) * (d % 4294967296) + (b % 4294967296) * (e % 4294967296) + (c % 4294967296) * (f % 4294967296)) % 4294967296 := by
  have ha := Int.emod_def a 4294967296
  have hb := Int.emod_def b 4294967296
  have hc := Int.emod_def c 4294967296
  have hd := Int.emod_def d 4294967296
  have he := Int.emod_def e 4294967296
  have hf := Int.emod_def f 4294967296
  generalize a / 4294967296 = a' at ha
  generalize b / 4294967296 = b' at hb
  generalize c / 4294967296 = c' at hc
  generalize d / 4294967296 = d' at hd
  generalize e / 4294967296 = e' at he
  generalize f / 4294967296 = f' at hf
  rw [ha, hb, hc, hd, he, hf]
  have k : a * d + b * e + c * f = ((a - 4294967296 * a') * (d - 4294967296 * d') + (b - 4294967296 * b') * (e - 4294967296 * e') + (c - 4294967296 * c') * (f - 4294967296 * f')) + 4294967296 * (a * d' + a' * d - 4294967296 * (a' * d') + (b * e' + b' * e - 4294967296 * (b' * e')) + (c * f' + c' * f - 4294967296 * (c' * f'))) := by
    grind
  rw [k, Int.add_mul_emod_self_left]
theorem pc_md_mul (x y : pc_M) : pc_md (pc_mul x y) = pc_md (pc_mul (pc_md x) (pc_md y)) := by
  obtain ⟨a1, a2, a3, a4, a5, a6, a7, a8, a9⟩ := x
  obtain ⟨b1, b2, b3, b4, b5, b6, b7, b8, b9⟩ := y
  simp only [pc_md, pc_mul, Prod.mk.injEq]
  exact ⟨pc_e3 _ _ _ _ _ _, pc_e3 _ _ _ _ _ _, pc_e3 _ _ _ _ _ _, pc_e3 _ _ _ _ _ _, pc_e3 _ _ _ _ _ _, pc_e3 _ _ _ _ _ _, pc_e3 _ _ _ _ _ _, pc_e3 _ _ _ _ _ _, pc_e3 _ _ _ _ _ _⟩
theorem pc_cg_mul {x x' y y' : pc_M} (h : pc_cg x x') (k : pc_cg y y') : pc_cg (pc_mul x y) (pc_mul x' y') := by
  unfold pc_cg at *
  rw [pc_md_mul x y, h, k, ← pc_md_mul]
theorem pc_cg_refl (x : pc_M) : pc_cg x x := rfl
theorem pc_cg_can {x y z : pc_M} (hx : pc_U x) (h : pc_cg (pc_mul x y) (pc_mul x z)) : pc_cg y z := by
  obtain ⟨i, _, hi⟩ := pc_inv hx
  have k := pc_cg_mul (pc_cg_refl i) h
  rw [← pc_assoc, ← pc_assoc, hi, pc_one_mul, pc_one_mul] at k
  exact k
def pc_le (n : Int) (x : pc_M) : Prop := (-n ≤ x.1 ∧ x.1 ≤ n) ∧ (-n ≤ x.2.1 ∧ x.2.1 ≤ n) ∧ (-n ≤ x.2.2.1 ∧ x.2.2.1 ≤ n) ∧ (-n ≤ x.2.2.2.1 ∧ x.2.2.2.1 ≤ n) ∧ (-n ≤ x.2.2.2.2.1 ∧ x.2.2.2.2.1 ≤ n) ∧ (-n ≤ x.2.2.2.2.2.1 ∧ x.2.2.2.2.2.1 ≤ n) ∧ (-n ≤ x.2.2.2.2.2.2.1 ∧ x.2.2.2.2.2.2.1 ≤ n) ∧ (-n ≤ x.2.2.2.2.2.2.2.1 ∧ x.2.2.2.2.2.2.2.1 ≤ n) ∧ (-n ≤ x.2.2.2.2.2.2.2.2 ∧ x.2.2.2.2.2.2.2.2 ≤ n)
theorem pc_cg_eq {x y : pc_M} (h : pc_cg x y) (hx : pc_le 1000000000 x) (hy : pc_le 1000000000 y) : x = y := by
  obtain ⟨a1, a2, a3, a4, a5, a6, a7, a8, a9⟩ := x
  obtain ⟨b1, b2, b3, b4, b5, b6, b7, b8, b9⟩ := y
  simp only [pc_cg, pc_md, Prod.mk.injEq] at h
  simp only [pc_le] at hx hy
  obtain ⟨h1, h2, h3, h4, h5, h6, h7, h8, h9⟩ := h
  obtain ⟨x1, x2, x3, x4, x5, x6, x7, x8, x9⟩ := hx
  obtain ⟨y1, y2, y3, y4, y5, y6, y7, y8, y9⟩ := hy
  simp only [Prod.mk.injEq]
  refine ⟨?_, ?_, ?_, ?_, ?_, ?_, ?_, ?_, ?_⟩
  · clear h2 x2 y2 h3 x3 y3 h4 x4 y4 h5 x5 y5 h6 x6 y6 h7 x7 y7 h8 x8 y8 h9 x9 y9; omega
  · clear h1 x1 y1 h3 x3 y3 h4 x4 y4 h5 x5 y5 h6 x6 y6 h7 x7 y7 h8 x8 y8 h9 x9 y9; omega
  · clear h1 x1 y1 h2 x2 y2 h4 x4 y4 h5 x5 y5 h6 x6 y6 h7 x7 y7 h8 x8 y8 h9 x9 y9; omega
  · clear h1 x1 y1 h2 x2 y2 h3 x3 y3 h5 x5 y5 h6 x6 y6 h7 x7 y7 h8 x8 y8 h9 x9 y9; omega
  · clear h1 x1 y1 h2 x2 y2 h3 x3 y3 h4 x4 y4 h6 x6 y6 h7 x7 y7 h8 x8 y8 h9 x9 y9; omega
  · clear h1 x1 y1 h2 x2 y2 h3 x3 y3 h4 x4 y4 h5 x5 y5 h7 x7 y7 h8 x8 y8 h9 x9 y9; omega
  · clear h1 x1 y1 h2 x2 y2 h3 x3 y3 h4 x4 y4 h5 x5 y5 h6 x6 y6 h8 x8 y8 h9 x9 y9; omega
  · clear h1 x1 y1 h2 x2 y2 h3 x3 y3 h4 x4 y4 h5 x5 y5 h6 x6 y6 h7 x7 y7 h9 x9 y9; omega
  · clear h1 x1 y1 h2 x2 y2 h3 x3 y3 h4 x4 y4 h5 x5 y5 h6 x6 y6 h7 x7 y7 h8 x8 y8; omega
/-- products of at most n of them -/
def pc_B (S : List pc_M) : Nat → pc_M → Prop
  | 0, x => x = pc_1
  | n + 1, x => pc_B S n x ∨ ∃ s, s ∈ S ∧ ∃ y, pc_B S n y ∧ x = pc_mul s y
theorem pc_B_mono {S : List pc_M} {x : pc_M} {m : Nat} (h : pc_B S m x) : ∀ k, pc_B S (m + k) x
  | 0 => h
  | k + 1 => Or.inl (pc_B_mono h k)
theorem pc_B_le {S : List pc_M} {x : pc_M} {m n : Nat} (h : pc_B S m x) (hn : m ≤ n) : pc_B S n x := by
  have k := pc_B_mono h (n - m)
  have e : m + (n - m) = n := by omega
  rw [e] at k
  exact k
def pc_W (S : List pc_M) (x : pc_M) : Prop := ∃ n, pc_B S n x
theorem pc_W_1 (S : List pc_M) : pc_W S pc_1 := ⟨0, rfl⟩
theorem pc_W_cons {S : List pc_M} {s y : pc_M} (hs : s ∈ S) (h : pc_W S y) : pc_W S (pc_mul s y) := by
  obtain ⟨n, h⟩ := h
  exact ⟨n + 1, Or.inr ⟨s, hs, y, h, rfl⟩⟩
theorem pc_W_mem {S : List pc_M} {s : pc_M} (hs : s ∈ S) : pc_W S s := by
  have h := pc_W_cons hs (pc_W_1 S)
  rw [pc_mul_one] at h
  exact h
theorem pc_B_ind {S : List pc_M} {Q : pc_M → Prop} (h1 : Q pc_1) (h2 : ∀ s, s ∈ S → ∀ y, pc_W S y → Q y → Q (pc_mul s y)) : ∀ n x, pc_B S n x → Q x
  | 0, x, h => by
    have e : x = pc_1 := h
    rw [e]
    exact h1
  | n + 1, x, h => by
    rcases h with h | ⟨s, hs, y, hy, e⟩
    · exact pc_B_ind h1 h2 n x h
    · rw [e]
      exact h2 s hs y ⟨n, hy⟩ (pc_B_ind h1 h2 n y hy)
theorem pc_W_ind {S : List pc_M} {Q : pc_M → Prop} (h1 : Q pc_1) (h2 : ∀ s, s ∈ S → ∀ y, pc_W S y → Q y → Q (pc_mul s y)) {x : pc_M} (h : pc_W S x) : Q x := by
  obtain ⟨n, h⟩ := h
  exact pc_B_ind h1 h2 n x h
theorem pc_W_mul {S : List pc_M} {x y : pc_M} (hx : pc_W S x) (hy : pc_W S y) : pc_W S (pc_mul x y) := by
  refine pc_W_ind (Q := fun x => pc_W S (pc_mul x y)) ?_ ?_ hx
  · rw [pc_one_mul]
    exact hy
  · intro s hs z _ hz
    rw [pc_assoc]
    exact pc_W_cons hs hz
theorem pc_W_pow {S : List pc_M} {x : pc_M} (hx : pc_W S x) : ∀ n, pc_W S (pc_pow x n)
  | 0 => pc_W_1 S
  | n + 1 => pc_W_mul hx (pc_W_pow hx n)
theorem pc_W_sub {S R : List pc_M} (h : ∀ s, s ∈ R → pc_W S s) {x : pc_M} (hx : pc_W R x) : pc_W S x :=
  pc_W_ind (Q := fun x => pc_W S x) (pc_W_1 S) (fun s hs _ _ hy => pc_W_mul (h s hs) hy) hx
theorem pc_W_U {S : List pc_M} (h : ∀ s, s ∈ S → pc_U s) {x : pc_M} (hx : pc_W S x) : pc_U x :=
  pc_W_ind (Q := pc_U) pc_U_1 (fun s hs _ _ hy => pc_U_mul (h s hs) hy) hx
theorem pc_W_T {S : List pc_M} {x : pc_M} (hx : pc_W (S.map pc_T) x) : pc_W S (pc_T x) := by
  refine pc_W_ind (Q := fun x => pc_W S (pc_T x)) (pc_W_1 S) ?_ hx
  intro s hs y _ hy
  obtain ⟨r, hr, e⟩ := List.mem_map.mp hs
  rw [pc_T_mul, ← e, pc_T_T]
  exact pc_W_mul hy (pc_W_mem hr)
/-- at most 48 products modulo 4294967296 -/
def pc_H (S : List pc_M) : Prop := ∃ L : List pc_M, L.length ≤ 48 ∧ ∀ x, pc_W S x → ∃ l, l ∈ L ∧ pc_cg x l
theorem pc_cg_T {x y : pc_M} (h : pc_cg x y) : pc_cg (pc_T x) (pc_T y) := by
  have e : pc_T (pc_md x) = pc_T (pc_md y) := by rw [h]
  exact e
theorem pc_H_T {S : List pc_M} (h : pc_H S) : pc_H (S.map pc_T) := by
  obtain ⟨L, hl, hL⟩ := h
  refine ⟨L.map pc_T, by rw [List.length_map]; exact hl, fun x hx => ?_⟩
  obtain ⟨l, hm, hc⟩ := hL _ (pc_W_T hx)
  exact ⟨pc_T l, List.mem_map.mpr ⟨l, hm, rfl⟩, pc_cg_T hc⟩
theorem pc_pig : ∀ (n : Nat) (f : Nat → Nat), (∀ i, i < n + 1 → f i < n) → ∃ i j, i < j ∧ j < n + 1 ∧ f i = f j
  | 0, f, h => absurd (h 0 (by omega)) (Nat.not_lt_zero _)
  | n + 1, f, h => by
    by_cases hv : ∃ i, i < n + 1 ∧ f i = f (n + 1)
    · obtain ⟨i, hi, e⟩ := hv
      exact ⟨i, n + 1, hi, by omega, e⟩
    · have hv' : ∀ i, i < n + 1 → f i ≠ f (n + 1) := fun i hi e => hv ⟨i, hi, e⟩
      obtain ⟨i, j, hij, hj, e⟩ := pc_pig n (fun i => if f i = n then f (n + 1) else f i) (fun i hi => by
        have h1 := h i (by omega)
        have h2 := h (n + 1) (by omega)
        have h3 := hv' i hi
        show (if f i = n then f (n + 1) else f i) < n
        split <;> omega)
      have e' : (if f i = n then f (n + 1) else f i) = (if f j = n then f (n + 1) else f j) := e
      have h3 := hv' i (by omega)
      have h4 := hv' j (by omega)
      refine ⟨i, j, hij, by omega, ?_⟩
      split at e' <;> split at e' <;> omega
theorem pc_pg {S : List pc_M} (h : pc_H S) (f : Nat → pc_M) (hf : ∀ i, i < 49 → pc_W S (f i)) : ∃ i j, i < j ∧ j < 49 ∧ pc_cg (f i) (f j) := by
  obtain ⟨L, hl, hL⟩ := h
  have g : ∀ i, ∃ k, i < 49 → (k < 48 ∧ ∃ l, L[k]? = some l ∧ pc_cg (f i) l) := by
    intro i
    by_cases hi : i < 49
    · obtain ⟨l, hm, hc⟩ := hL _ (hf i hi)
      obtain ⟨k, hk⟩ := List.mem_iff_getElem?.mp hm
      refine ⟨k, fun _ => ⟨?_, l, hk, hc⟩⟩
      have hk' := (List.getElem?_eq_some_iff.mp hk).1
      omega
    · exact ⟨0, fun c => absurd c hi⟩
  obtain ⟨g, hg⟩ := Classical.axiomOfChoice g
  obtain ⟨i, j, hij, hj, e⟩ := pc_pig 48 g (fun i hi => (hg i hi).1)
  obtain ⟨_, l, hl1, hc1⟩ := hg i (by omega)
  obtain ⟨_, l', hl2, hc2⟩ := hg j hj
  rw [e, hl2] at hl1
  have ell : l' = l := Option.some.inj hl1
  rw [ell] at hc2
  exact ⟨i, j, hij, hj, hc1.trans hc2.symm⟩
theorem pc_tor {S : List pc_M} (h : pc_H S) (hS : ∀ s, s ∈ S → pc_U s) {u : pc_M} (hu : pc_W S u) : ∃ k, 1 ≤ k ∧ k ≤ 48 ∧ pc_cg (pc_pow u k) pc_1 := by
  obtain ⟨i, j, hij, hj, hc⟩ := pc_pg h (fun i => pc_pow u i) (fun i _ => pc_W_pow hu i)
  refine ⟨j - i, by omega, by omega, ?_⟩
  have e : j = i + (j - i) := by omega
  have hc' : pc_cg (pc_pow u i) (pc_pow u j) := hc
  rw [e, pc_pow_add] at hc'
  have hc'' : pc_cg (pc_mul (pc_pow u i) pc_1) (pc_mul (pc_pow u i) (pc_pow u (j - i))) := by
    rw [pc_mul_one]
    exact hc'
  exact (pc_cg_can (pc_U_pow (pc_W_U hS hu) i) hc'').symm
end PCM
