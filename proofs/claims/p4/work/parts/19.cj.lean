/-! other axes and signs; forms that matrices leave; sums of columns -/
section PCC
def pc_cj : Nat → pc_M → pc_M
  | 0, x => (x.2.2.2.2.1, x.2.2.2.1, x.2.2.2.2.2.1, x.2.1, x.1, x.2.2.1, x.2.2.2.2.2.2.2.1, x.2.2.2.2.2.2.1, x.2.2.2.2.2.2.2.2)
  | 1, x => (x.1, x.2.2.1, x.2.1, x.2.2.2.2.2.2.1, x.2.2.2.2.2.2.2.2, x.2.2.2.2.2.2.2.1, x.2.2.2.1, x.2.2.2.2.2.1, x.2.2.2.2.1)
  | 2, x => (x.1, -x.2.1, -x.2.2.1, -x.2.2.2.1, x.2.2.2.2.1, x.2.2.2.2.2.1, -x.2.2.2.2.2.2.1, x.2.2.2.2.2.2.2.1, x.2.2.2.2.2.2.2.2)
  | _, x => (x.1, -x.2.1, x.2.2.1, -x.2.2.2.1, x.2.2.2.2.1, -x.2.2.2.2.2.1, x.2.2.2.2.2.2.1, -x.2.2.2.2.2.2.2.1, x.2.2.2.2.2.2.2.2)
theorem pc_cj_mul (x y : pc_M) : ∀ k, pc_cj k (pc_mul x y) = pc_mul (pc_cj k x) (pc_cj k y)
  | 0 => by
    obtain ⟨a1, a2, a3, a4, a5, a6, a7, a8, a9⟩ := x
    obtain ⟨b1, b2, b3, b4, b5, b6, b7, b8, b9⟩ := y
    simp only [pc_cj, pc_mul, Prod.mk.injEq]
    refine ⟨?_, ?_, ?_, ?_, ?_, ?_, ?_, ?_, ?_⟩ <;> grind
  | 1 => by
    obtain ⟨a1, a2, a3, a4, a5, a6, a7, a8, a9⟩ := x
    obtain ⟨b1, b2, b3, b4, b5, b6, b7, b8, b9⟩ := y
    simp only [pc_cj, pc_mul, Prod.mk.injEq]
    refine ⟨?_, ?_, ?_, ?_, ?_, ?_, ?_, ?_, ?_⟩ <;> grind
  | 2 => by
    obtain ⟨a1, a2, a3, a4, a5, a6, a7, a8, a9⟩ := x
    obtain ⟨b1, b2, b3, b4, b5, b6, b7, b8, b9⟩ := y
    simp only [pc_cj, pc_mul, Prod.mk.injEq]
    refine ⟨?_, ?_, ?_, ?_, ?_, ?_, ?_, ?_, ?_⟩ <;> grind
  | _ + 3 => by
    obtain ⟨a1, a2, a3, a4, a5, a6, a7, a8, a9⟩ := x
    obtain ⟨b1, b2, b3, b4, b5, b6, b7, b8, b9⟩ := y
    simp only [pc_cj, pc_mul, Prod.mk.injEq]
    refine ⟨?_, ?_, ?_, ?_, ?_, ?_, ?_, ?_, ?_⟩ <;> grind
theorem pc_cj_1 : ∀ k, pc_cj k pc_1 = pc_1
  | 0 => rfl
  | 1 => rfl
  | 2 => rfl
  | _ + 3 => rfl
theorem pc_cj_cj (x : pc_M) : ∀ k, pc_cj k (pc_cj k x) = x
  | 0 => rfl
  | 1 => rfl
  | 2 => by
    obtain ⟨a1, a2, a3, a4, a5, a6, a7, a8, a9⟩ := x
    simp only [pc_cj, Int.neg_neg]
  | _ + 3 => by
    obtain ⟨a1, a2, a3, a4, a5, a6, a7, a8, a9⟩ := x
    simp only [pc_cj, Int.neg_neg]
theorem pc_cj_dt (x : pc_M) : ∀ k, pc_dt (pc_cj k x) = pc_dt x
  | 0 => by
    obtain ⟨a1, a2, a3, a4, a5, a6, a7, a8, a9⟩ := x
    simp only [pc_cj, pc_dt, Prod.mk.injEq]
    grind
  | 1 => by
    obtain ⟨a1, a2, a3, a4, a5, a6, a7, a8, a9⟩ := x
    simp only [pc_cj, pc_dt, Prod.mk.injEq]
    grind
  | 2 => by
    obtain ⟨a1, a2, a3, a4, a5, a6, a7, a8, a9⟩ := x
    simp only [pc_cj, pc_dt, Prod.mk.injEq]
    grind
  | _ + 3 => by
    obtain ⟨a1, a2, a3, a4, a5, a6, a7, a8, a9⟩ := x
    simp only [pc_cj, pc_dt, Prod.mk.injEq]
    grind
theorem pc_cj_T (x : pc_M) : ∀ k, pc_T (pc_cj k x) = pc_cj k (pc_T x)
  | 0 => rfl
  | 1 => rfl
  | 2 => rfl
  | _ + 3 => rfl
theorem pc_cj_neg (x : pc_M) : ∀ k, pc_cj k (pc_neg x) = pc_neg (pc_cj k x)
  | 0 => rfl
  | 1 => rfl
  | 2 => rfl
  | _ + 3 => rfl
/-- sums of columns -/
def pc_cl (n : Nat) (x : pc_M) : Prop := (x.1).natAbs + (x.2.2.2.1).natAbs + (x.2.2.2.2.2.2.1).natAbs ≤ n ∧ (x.2.1).natAbs + (x.2.2.2.2.1).natAbs + (x.2.2.2.2.2.2.2.1).natAbs ≤ n ∧ (x.2.2.1).natAbs + (x.2.2.2.2.2.1).natAbs + (x.2.2.2.2.2.2.2.2).natAbs ≤ n
def pc_clb (n : Nat) (x : pc_M) : Bool := Nat.ble ((x.1).natAbs + (x.2.2.2.1).natAbs + (x.2.2.2.2.2.2.1).natAbs) n && Nat.ble ((x.2.1).natAbs + (x.2.2.2.2.1).natAbs + (x.2.2.2.2.2.2.2.1).natAbs) n && Nat.ble ((x.2.2.1).natAbs + (x.2.2.2.2.2.1).natAbs + (x.2.2.2.2.2.2.2.2).natAbs) n
theorem pc_clb_ok {n : Nat} {x : pc_M} (h : pc_clb n x = true) : pc_cl n x := by
  unfold pc_clb at h
  rw [Bool.and_eq_true, Bool.and_eq_true] at h
  exact ⟨Nat.le_of_ble_eq_true h.1.1, Nat.le_of_ble_eq_true h.1.2, Nat.le_of_ble_eq_true h.2⟩
theorem pc_cl_mono {n m : Nat} {x : pc_M} (h : pc_cl n x) (k : n ≤ m) : pc_cl m x := by
  unfold pc_cl at *
  omega
theorem pc_cl_le {n : Nat} {x : pc_M} (h : pc_cl n x) : pc_le n x := by
  unfold pc_cl at h
  unfold pc_le
  refine ⟨?_, ?_, ?_, ?_, ?_, ?_, ?_, ?_, ?_⟩ <;> omega
theorem pc_cl_neg {n : Nat} {x : pc_M} (h : pc_cl n x) : pc_cl n (pc_neg x) := by
  unfold pc_cl at *
  simp only [pc_neg, Int.natAbs_neg]
  exact h
theorem pc_le_mono {n m : Int} {x : pc_M} (h : pc_le n x) (k : n ≤ m) : pc_le m x := by
  unfold pc_le at *
  refine ⟨?_, ?_, ?_, ?_, ?_, ?_, ?_, ?_, ?_⟩ <;> omega
theorem pc_le_neg {n : Int} {x : pc_M} (h : pc_le n x) : pc_le n (pc_neg x) := by
  unfold pc_le at *
  simp only [pc_neg]
  refine ⟨?_, ?_, ?_, ?_, ?_, ?_, ?_, ?_, ?_⟩ <;> omega
theorem pc_le_T {n : Int} {x : pc_M} (h : pc_le n x) : pc_le n (pc_T x) := by
  unfold pc_le at *
  simp only [pc_T]
  refine ⟨?_, ?_, ?_, ?_, ?_, ?_, ?_, ?_, ?_⟩ <;> omega
theorem pc_cl_cj {n : Nat} {x : pc_M} (h : pc_cl n x) : ∀ k, pc_cl n (pc_cj k x)
  | 0 => by
    unfold pc_cl at *
    simp only [pc_cj, Int.natAbs_neg]
    omega
  | 1 => by
    unfold pc_cl at *
    simp only [pc_cj, Int.natAbs_neg]
    omega
  | 2 => by
    unfold pc_cl at *
    simp only [pc_cj, Int.natAbs_neg]
    omega
  | _ + 3 => by
    unfold pc_cl at *
    simp only [pc_cj, Int.natAbs_neg]
    omega
theorem pc_le_cj {n : Int} {x : pc_M} (h : pc_le n x) : ∀ k, pc_le n (pc_cj k x)
  | 0 => by
    unfold pc_le at *
    simp only [pc_cj]
    refine ⟨?_, ?_, ?_, ?_, ?_, ?_, ?_, ?_, ?_⟩ <;> omega
  | 1 => by
    unfold pc_le at *
    simp only [pc_cj]
    refine ⟨?_, ?_, ?_, ?_, ?_, ?_, ?_, ?_, ?_⟩ <;> omega
  | 2 => by
    unfold pc_le at *
    simp only [pc_cj]
    refine ⟨?_, ?_, ?_, ?_, ?_, ?_, ?_, ?_, ?_⟩ <;> omega
  | _ + 3 => by
    unfold pc_le at *
    simp only [pc_cj]
    refine ⟨?_, ?_, ?_, ?_, ?_, ?_, ?_, ?_, ?_⟩ <;> omega
theorem pc_cg_cj {x y : pc_M} (h : pc_cg x y) : ∀ k, pc_cg (pc_cj k x) (pc_cj k y)
  | 0 => by
    obtain ⟨a1, a2, a3, a4, a5, a6, a7, a8, a9⟩ := x
    obtain ⟨b1, b2, b3, b4, b5, b6, b7, b8, b9⟩ := y
    simp only [pc_cg, pc_md, Prod.mk.injEq] at h
    simp only [pc_cg, pc_md, pc_cj, Prod.mk.injEq]
    obtain ⟨h1, h2, h3, h4, h5, h6, h7, h8, h9⟩ := h
    refine ⟨?_, ?_, ?_, ?_, ?_, ?_, ?_, ?_, ?_⟩ <;> omega
  | 1 => by
    obtain ⟨a1, a2, a3, a4, a5, a6, a7, a8, a9⟩ := x
    obtain ⟨b1, b2, b3, b4, b5, b6, b7, b8, b9⟩ := y
    simp only [pc_cg, pc_md, Prod.mk.injEq] at h
    simp only [pc_cg, pc_md, pc_cj, Prod.mk.injEq]
    obtain ⟨h1, h2, h3, h4, h5, h6, h7, h8, h9⟩ := h
    refine ⟨?_, ?_, ?_, ?_, ?_, ?_, ?_, ?_, ?_⟩ <;> omega
  | 2 => by
    obtain ⟨a1, a2, a3, a4, a5, a6, a7, a8, a9⟩ := x
    obtain ⟨b1, b2, b3, b4, b5, b6, b7, b8, b9⟩ := y
    simp only [pc_cg, pc_md, Prod.mk.injEq] at h
    simp only [pc_cg, pc_md, pc_cj, Prod.mk.injEq]
    obtain ⟨h1, h2, h3, h4, h5, h6, h7, h8, h9⟩ := h
    refine ⟨?_, ?_, ?_, ?_, ?_, ?_, ?_, ?_, ?_⟩ <;> omega
  | _ + 3 => by
    obtain ⟨a1, a2, a3, a4, a5, a6, a7, a8, a9⟩ := x
    obtain ⟨b1, b2, b3, b4, b5, b6, b7, b8, b9⟩ := y
    simp only [pc_cg, pc_md, Prod.mk.injEq] at h
    simp only [pc_cg, pc_md, pc_cj, Prod.mk.injEq]
    obtain ⟨h1, h2, h3, h4, h5, h6, h7, h8, h9⟩ := h
    refine ⟨?_, ?_, ?_, ?_, ?_, ?_, ?_, ?_, ?_⟩ <;> omega
def pc_cjs : List Nat → pc_M → pc_M
  | [], x => x
  | k :: ks, x => pc_cjs ks (pc_cj k x)
theorem pc_cjs_mul : ∀ ks (x y : pc_M), pc_cjs ks (pc_mul x y) = pc_mul (pc_cjs ks x) (pc_cjs ks y)
  | [], _, _ => rfl
  | k :: ks, x, y => by
    show pc_cjs ks (pc_cj k (pc_mul x y)) = _
    rw [pc_cj_mul, pc_cjs_mul ks]
    rfl
theorem pc_cjs_1 : ∀ ks, pc_cjs ks pc_1 = pc_1
  | [] => rfl
  | k :: ks => by
    show pc_cjs ks (pc_cj k pc_1) = _
    rw [pc_cj_1, pc_cjs_1 ks]
theorem pc_cjs_inj : ∀ ks {x y : pc_M}, pc_cjs ks x = pc_cjs ks y → x = y
  | [], _, _, h => h
  | k :: ks, x, y, h => by
    have e : pc_cj k x = pc_cj k y := pc_cjs_inj ks h
    have e' : pc_cj k (pc_cj k x) = pc_cj k (pc_cj k y) := by rw [e]
    rw [pc_cj_cj, pc_cj_cj] at e'
    exact e'
theorem pc_cjs_dt : ∀ ks (x : pc_M), pc_dt (pc_cjs ks x) = pc_dt x
  | [], _ => rfl
  | k :: ks, x => by
    show pc_dt (pc_cjs ks (pc_cj k x)) = _
    rw [pc_cjs_dt ks, pc_cj_dt]
theorem pc_cjs_neg : ∀ ks (x : pc_M), pc_cjs ks (pc_neg x) = pc_neg (pc_cjs ks x)
  | [], _ => rfl
  | k :: ks, x => by
    show pc_cjs ks (pc_cj k (pc_neg x)) = _
    rw [pc_cj_neg, pc_cjs_neg ks]
    rfl
theorem pc_cjs_T : ∀ ks (x : pc_M), pc_T (pc_cjs ks x) = pc_cjs ks (pc_T x)
  | [], _ => rfl
  | k :: ks, x => by
    show pc_T (pc_cjs ks (pc_cj k x)) = pc_cjs ks (pc_cj k (pc_T x))
    rw [pc_cjs_T ks, pc_cj_T]
theorem pc_cg_cjs : ∀ ks {x y : pc_M}, pc_cg x y → pc_cg (pc_cjs ks x) (pc_cjs ks y)
  | [], _, _, h => h
  | k :: ks, _, _, h => pc_cg_cjs ks (pc_cg_cj h k)
theorem pc_le_cjs {n : Int} : ∀ ks {x : pc_M}, pc_le n x → pc_le n (pc_cjs ks x)
  | [], _, h => h
  | k :: ks, _, h => pc_le_cjs ks (pc_le_cj h k)
theorem pc_cl_uncj {n : Nat} : ∀ ks {x : pc_M}, pc_cl n (pc_cjs ks x) → pc_cl n x
  | [], _, h => h
  | k :: ks, x, h => by
    have c := pc_cl_cj (pc_cl_uncj ks (x := pc_cj k x) h) k
    rw [pc_cj_cj] at c
    exact c
/-- the one of it and its negative whose determinant is 1 -/
def pc_nz (x : pc_M) : pc_M := if pc_dt x = 1 then x else pc_neg x
theorem pc_nz_pos {x : pc_M} (h : pc_dt x = 1) : pc_nz x = x := if_pos h
theorem pc_nz_neg {x : pc_M} (h : pc_dt x = -1) : pc_nz x = pc_neg x := if_neg (by rw [h]; decide)
theorem pc_nz_dt {x : pc_M} (h : pc_U x) : pc_dt (pc_nz x) = 1 := by
  rcases h with h | h
  · rw [pc_nz_pos h, h]
  · rw [pc_nz_neg h, pc_dt_neg, h]
    rfl
theorem pc_nz_mul {x y : pc_M} (hx : pc_U x) (hy : pc_U y) : pc_nz (pc_mul x y) = pc_mul (pc_nz x) (pc_nz y) := by
  have d := pc_dt_mul x y
  rcases hx with h | h <;> rcases hy with k | k <;> rw [h, k] at d
  · rw [pc_nz_pos h, pc_nz_pos k, pc_nz_pos d]
  · rw [pc_nz_pos h, pc_nz_neg k, pc_nz_neg d, pc_mul_neg]
  · rw [pc_nz_neg h, pc_nz_pos k, pc_nz_neg d, pc_neg_mul]
  · rw [pc_nz_neg h, pc_nz_neg k, pc_nz_pos d, pc_neg_mul, pc_mul_neg, pc_neg_neg]
theorem pc_nz_or (x : pc_M) : pc_nz x = x ∨ pc_nz x = pc_neg x := by
  unfold pc_nz
  split
  · exact Or.inl rfl
  · exact Or.inr rfl
theorem pc_cl_unnz {n : Nat} {x : pc_M} (h : pc_cl n (pc_nz x)) : pc_cl n x := by
  rcases pc_nz_or x with e | e
  · rw [e] at h
    exact h
  · rw [e] at h
    have c := pc_cl_neg h
    rw [pc_neg_neg] at c
    exact c
theorem pc_le_nz {n : Int} {x : pc_M} (h : pc_le n x) : pc_le n (pc_nz x) := by
  rcases pc_nz_or x with e | e
  · rw [e]
    exact h
  · rw [e]
    exact pc_le_neg h
/-- other axes, determinant 1 -/
def pc_ph (ks : List Nat) (x : pc_M) : pc_M := pc_cjs ks (pc_nz x)
theorem pc_ph_mul (ks : List Nat) {x y : pc_M} (hx : pc_U x) (hy : pc_U y) : pc_ph ks (pc_mul x y) = pc_mul (pc_ph ks x) (pc_ph ks y) := by
  unfold pc_ph
  rw [pc_nz_mul hx hy, pc_cjs_mul]
theorem pc_ph_1 (ks : List Nat) : pc_ph ks pc_1 = pc_1 := by
  unfold pc_ph
  rw [pc_nz_pos pc_dt_1, pc_cjs_1]
theorem pc_ph_dt (ks : List Nat) {x : pc_M} (h : pc_U x) : pc_dt (pc_ph ks x) = 1 := by
  unfold pc_ph
  rw [pc_cjs_dt, pc_nz_dt h]
theorem pc_ph_le (ks : List Nat) {n : Int} {x : pc_M} (h : pc_le n x) : pc_le n (pc_ph ks x) := pc_le_cjs ks (pc_le_nz h)
theorem pc_ph_uncl (ks : List Nat) {n : Nat} {x : pc_M} (h : pc_cl n (pc_ph ks x)) : pc_cl n x := pc_cl_unnz (pc_cl_uncj ks h)
theorem pc_ph_unrw (ks : List Nat) {n : Nat} {x : pc_M} (h : pc_cl n (pc_T (pc_ph ks x))) : pc_cl n (pc_T x) := by
  unfold pc_ph at h
  rw [pc_cjs_T] at h
  have c := pc_cl_uncj ks h
  rcases pc_nz_or x with e | e
  · rw [e] at c
    exact c
  · rw [e] at c
    have c' := pc_cl_neg c
    have e' : pc_neg (pc_T (pc_neg x)) = pc_T (pc_neg (pc_neg x)) := rfl
    rw [e', pc_neg_neg] at c'
    exact c'
theorem pc_ph_pow (ks : List Nat) {x : pc_M} (h : pc_U x) : ∀ n, pc_ph ks (pc_pow x n) = pc_pow (pc_ph ks x) n
  | 0 => pc_ph_1 ks
  | n + 1 => by
    show pc_ph ks (pc_mul x (pc_pow x n)) = pc_mul (pc_ph ks x) (pc_pow (pc_ph ks x) n)
    rw [pc_ph_mul ks h (pc_U_pow h n), pc_ph_pow ks h n]
theorem pc_dt_sq {x : pc_M} (h : pc_U x) (k : Nat) : pc_dt (pc_pow x (2 * k)) = 1 := by
  rw [Nat.mul_comm, pc_pow_mul, pc_pow_two, pc_dt_mul]
  rcases pc_U_pow h k with e | e <;> rw [e] <;> rfl
theorem pc_ph_tor (ks : List Nat) {x : pc_M} (h : pc_U x) {k : Nat} (hc : pc_cg (pc_pow x k) pc_1) : pc_cg (pc_pow (pc_ph ks x) (2 * k)) pc_1 := by
  rw [← pc_ph_pow ks h]
  unfold pc_ph
  rw [pc_nz_pos (pc_dt_sq h k)]
  have e : pc_cg (pc_pow x (2 * k)) pc_1 := by
    rw [Nat.mul_comm, pc_pow_mul, pc_pow_two]
    have c := pc_cg_mul hc hc
    rw [pc_one_mul] at c
    exact c
  have c := pc_cg_cjs ks e
  rw [pc_cjs_1] at c
  exact c
/-- equal to one another up to the sign, and the determinants are 1: equal -/
theorem pc_ph_inj (ks : List Nat) {x y : pc_M} (h : x = y) : pc_ph ks x = pc_ph ks y := by rw [h]
def pc_prs (F g : pc_M) : Bool := pc_eqb (pc_mul (pc_T g) (pc_mul F g)) F
theorem pc_prs_mul {F x y : pc_M} (hx : pc_prs F x = true) (hy : pc_prs F y = true) : pc_prs F (pc_mul x y) = true := by
  have ex := pc_eqb_eq hx
  have ey := pc_eqb_eq hy
  have e : pc_mul (pc_T (pc_mul x y)) (pc_mul F (pc_mul x y)) = F := by
    rw [pc_T_mul, pc_assoc, ← pc_assoc F, ← pc_assoc (pc_T x), ex, ey]
  unfold pc_prs
  rw [e]
  exact pc_eqb_self F
theorem pc_prs_1 (F : pc_M) : pc_prs F pc_1 = true := by
  unfold pc_prs
  rw [pc_T_1, pc_mul_one, pc_one_mul]
  exact pc_eqb_self F
theorem pc_sqn (a : Int) : 0 ≤ a * a := by
  rcases Int.le_total 0 a with h | h
  · exact Int.mul_nonneg h h
  · have k : 0 ≤ (-a) * (-a) := Int.mul_nonneg (by omega) (by omega)
    rw [Int.neg_mul_neg] at k
    exact k
theorem pc_nn {p x : Int} (hp : 0 < p) (h : 0 ≤ p * x) : 0 ≤ x := by
  rcases Int.lt_or_le x 0 with c | c
  · exact absurd (Int.mul_neg_of_pos_of_neg hp c) (Int.not_lt.mpr h)
  · exact c
theorem pc_pd {p q r u v t x y z : Int} (hp : 0 < p) (hm : 0 < p * q - t * t) : (p * (q * r - u * u) - t * (t * r - u * v) + v * (t * u - q * v)) * (z * z) ≤ (p * q - t * t) * (p * (x * x) + q * (y * y) + r * (z * z) + 2 * (u * (y * z)) + 2 * (v * (x * z)) + 2 * (t * (x * y))) := by
  have id : p * ((p * q - t * t) * (p * (x * x) + q * (y * y) + r * (z * z) + 2 * (u * (y * z)) + 2 * (v * (x * z)) + 2 * (t * (x * y))) - (p * (q * r - u * u) - t * (t * r - u * v) + v * (t * u - q * v)) * (z * z)) = (p * q - t * t) * ((p * x + t * y + v * z) * (p * x + t * y + v * z)) + ((p * q - t * t) * y + (p * u - t * v) * z) * ((p * q - t * t) * y + (p * u - t * v) * z) := by
    grind
  have n1 : 0 ≤ (p * q - t * t) * ((p * x + t * y + v * z) * (p * x + t * y + v * z)) := Int.mul_nonneg (by omega) (pc_sqn _)
  have n2 := pc_sqn ((p * q - t * t) * y + (p * u - t * v) * z)
  have n3 : 0 ≤ p * ((p * q - t * t) * (p * (x * x) + q * (y * y) + r * (z * z) + 2 * (u * (y * z)) + 2 * (v * (x * z)) + 2 * (t * (x * y))) - (p * (q * r - u * u) - t * (t * r - u * v) + v * (t * u - q * v)) * (z * z)) := by
    rw [id]
    omega
  have n4 := pc_nn hp n3
  omega
theorem pc_b8 {d z n : Int} (hd : 0 < d) (h : d * (z * z) ≤ n) (h2 : n < 81 * d) : z.natAbs ≤ 8 := by
  by_cases c : z.natAbs ≤ 8
  · exact c
  · have k : 81 ≤ z * z := by
      rcases Int.le_total 0 z with h0 | h0
      · have h9 : 9 ≤ z := by omega
        have m : (9 : Int) * 9 ≤ z * z := Int.mul_le_mul h9 h9 (by omega) (by omega)
        omega
      · have h9 : 9 ≤ -z := by omega
        have m : (9 : Int) * 9 ≤ (-z) * (-z) := Int.mul_le_mul h9 h9 (by omega) (by omega)
        rw [Int.neg_mul_neg] at m
        omega
    have m : d * 81 ≤ d * (z * z) := Int.mul_le_mul_of_nonneg_left k (by omega)
    omega
/-- six numbers of a form: 11 22 33 23 13 12 -/
def pc_F (p q r u v t : Int) : pc_M := (p, t, v, t, q, u, v, u, r)
def pc_fd (p q r u v t : Int) : Int := p * (q * r - u * u) - t * (t * r - u * v) + v * (t * u - q * v)
def pc_fok (p q r u v t : Int) : Bool := decide (0 < p) && decide (0 < r) && decide (0 < p * q - t * t) && decide (0 < r * q - u * u) && decide (0 < p * r - v * v) && decide (0 < pc_fd p q r u v t)
  && decide ((p * q - t * t) * p < 81 * pc_fd p q r u v t) && decide ((p * q - t * t) * q < 81 * pc_fd p q r u v t) && decide ((p * q - t * t) * r < 81 * pc_fd p q r u v t)
  && decide ((r * q - u * u) * p < 81 * pc_fd p q r u v t) && decide ((r * q - u * u) * q < 81 * pc_fd p q r u v t) && decide ((r * q - u * u) * r < 81 * pc_fd p q r u v t)
  && decide ((p * r - v * v) * p < 81 * pc_fd p q r u v t) && decide ((p * r - v * v) * q < 81 * pc_fd p q r u v t) && decide ((p * r - v * v) * r < 81 * pc_fd p q r u v t)
theorem pc_fcol {p q r u v t c x y z : Int} (h1 : 0 < p) (h2 : 0 < r) (h3 : 0 < p * q - t * t) (h4 : 0 < r * q - u * u) (h5 : 0 < p * r - v * v) (h6 : 0 < pc_fd p q r u v t) (c1 : (p * q - t * t) * c < 81 * pc_fd p q r u v t) (c2 : (r * q - u * u) * c < 81 * pc_fd p q r u v t) (c3 : (p * r - v * v) * c < 81 * pc_fd p q r u v t) (hq : p * (x * x) + q * (y * y) + r * (z * z) + 2 * (u * (y * z)) + 2 * (v * (x * z)) + 2 * (t * (x * y)) = c) : x.natAbs + y.natAbs + z.natAbs ≤ 24 := by
  have a1 := pc_pd (p := p) (q := q) (r := r) (u := u) (v := v) (t := t) (x := x) (y := y) (z := z) h1 h3
  rw [hq] at a1
  have b1 : z.natAbs ≤ 8 := pc_b8 h6 a1 c1
  have a2 := pc_pd (p := r) (q := q) (r := p) (u := t) (v := v) (t := u) (x := z) (y := y) (z := x) h2 h4
  have e2 : r * (z * z) + q * (y * y) + p * (x * x) + 2 * (t * (y * x)) + 2 * (v * (z * x)) + 2 * (u * (z * y)) = c := by
    rw [← hq]
    grind
  have d2 : r * (q * p - t * t) - u * (u * p - t * v) + v * (u * t - q * v) = pc_fd p q r u v t := by
    unfold pc_fd
    grind
  rw [e2, d2] at a2
  have b2 : x.natAbs ≤ 8 := pc_b8 h6 a2 c2
  have a3 := pc_pd (p := p) (q := r) (r := q) (u := u) (v := t) (t := v) (x := x) (y := z) (z := y) h1 h5
  have e3 : p * (x * x) + r * (z * z) + q * (y * y) + 2 * (u * (z * y)) + 2 * (t * (x * y)) + 2 * (v * (x * z)) = c := by
    rw [← hq]
    grind
  have d3 : p * (r * q - u * u) - v * (v * q - u * t) + t * (v * u - r * t) = pc_fd p q r u v t := by
    unfold pc_fd
    grind
  rw [e3, d3] at a3
  have b3 : y.natAbs ≤ 8 := pc_b8 h6 a3 c3
  omega
theorem pc_fok_cl {p q r u v t : Int} (h : pc_fok p q r u v t = true) {g : pc_M} (hg : pc_prs (pc_F p q r u v t) g = true) : pc_cl 24 g := by
  unfold pc_fok at h
  simp only [Bool.and_eq_true, decide_eq_true_eq] at h
  obtain ⟨⟨⟨⟨⟨⟨⟨⟨⟨⟨⟨⟨⟨⟨h1, h2⟩, h3⟩, h4⟩, h5⟩, h6⟩, c1⟩, c2⟩, c3⟩, c4⟩, c5⟩, c6⟩, c7⟩, c8⟩, c9⟩ := h
  have e := pc_eqb_eq hg
  obtain ⟨a1, a2, a3, a4, a5, a6, a7, a8, a9⟩ := g
  simp only [pc_mul, pc_T, pc_F, Prod.mk.injEq] at e
  obtain ⟨e1, _, _, _, e5, _, _, _, e9⟩ := e
  refine ⟨?_, ?_, ?_⟩
  · exact pc_fcol (x := a1) (y := a4) (z := a7) h1 h2 h3 h4 h5 h6 c1 c4 c7 (Eq.trans (by grind) e1)
  · exact pc_fcol (x := a2) (y := a5) (z := a8) h1 h2 h3 h4 h5 h6 c2 c5 c8 (Eq.trans (by grind) e5)
  · exact pc_fcol (x := a3) (y := a6) (z := a9) h1 h2 h3 h4 h5 h6 c3 c6 c9 (Eq.trans (by grind) e9)
end PCC
