/-! powers that come back modulo 4294967296 come back: traces of powers, and matrices whose only root is 1 -/
section PCT
def pc_cb3 (t s d : Int) (a b c : pc_M) : pc_M := (t * a.1 - s * b.1 + d * c.1, t * a.2.1 - s * b.2.1 + d * c.2.1, t * a.2.2.1 - s * b.2.2.1 + d * c.2.2.1, t * a.2.2.2.1 - s * b.2.2.2.1 + d * c.2.2.2.1, t * a.2.2.2.2.1 - s * b.2.2.2.2.1 + d * c.2.2.2.2.1, t * a.2.2.2.2.2.1 - s * b.2.2.2.2.2.1 + d * c.2.2.2.2.2.1, t * a.2.2.2.2.2.2.1 - s * b.2.2.2.2.2.2.1 + d * c.2.2.2.2.2.2.1, t * a.2.2.2.2.2.2.2.1 - s * b.2.2.2.2.2.2.2.1 + d * c.2.2.2.2.2.2.2.1, t * a.2.2.2.2.2.2.2.2 - s * b.2.2.2.2.2.2.2.2 + d * c.2.2.2.2.2.2.2.2)
theorem pc_ch0 (x : pc_M) : pc_mul x (pc_mul x x) = pc_cb3 (pc_tr x) (pc_s2 x) (pc_dt x) (pc_mul x x) x pc_1 := by
  obtain ⟨a1, a2, a3, a4, a5, a6, a7, a8, a9⟩ := x
  simp only [pc_mul, pc_cb3, pc_tr, pc_s2, pc_dt, pc_1, Prod.mk.injEq]
  refine ⟨?_, ?_, ?_, ?_, ?_, ?_, ?_, ?_, ?_⟩ <;> grind
theorem pc_cb3_mul (t s d : Int) (x y z v : pc_M) : pc_mul (pc_cb3 t s d x y z) v = pc_cb3 t s d (pc_mul x v) (pc_mul y v) (pc_mul z v) := by
  obtain ⟨a1, a2, a3, a4, a5, a6, a7, a8, a9⟩ := x
  obtain ⟨b1, b2, b3, b4, b5, b6, b7, b8, b9⟩ := y
  obtain ⟨c1, c2, c3, c4, c5, c6, c7, c8, c9⟩ := z
  obtain ⟨g1, g2, g3, g4, g5, g6, g7, g8, g9⟩ := v
  simp only [pc_mul, pc_cb3, Prod.mk.injEq]
  refine ⟨?_, ?_, ?_, ?_, ?_, ?_, ?_, ?_, ?_⟩ <;> grind
theorem pc_tr_cb3 (t s : Int) (x y z : pc_M) : pc_tr (pc_cb3 t s 1 x y z) = t * pc_tr x - s * pc_tr y + pc_tr z := by
  obtain ⟨a1, a2, a3, a4, a5, a6, a7, a8, a9⟩ := x
  obtain ⟨b1, b2, b3, b4, b5, b6, b7, b8, b9⟩ := y
  obtain ⟨c1, c2, c3, c4, c5, c6, c7, c8, c9⟩ := z
  simp only [pc_tr, pc_cb3, Prod.mk.injEq]
  grind
theorem pc_tr_sq (x : pc_M) : pc_tr (pc_mul x x) = pc_tr x * pc_tr x - 2 * pc_s2 x := by
  obtain ⟨a1, a2, a3, a4, a5, a6, a7, a8, a9⟩ := x
  simp only [pc_tr, pc_s2, pc_mul, Prod.mk.injEq]
  grind
theorem pc_s2_sq (x : pc_M) : pc_s2 (pc_mul x x) = pc_s2 x * pc_s2 x - 2 * pc_dt x * pc_tr x := by
  obtain ⟨a1, a2, a3, a4, a5, a6, a7, a8, a9⟩ := x
  simp only [pc_tr, pc_s2, pc_mul, pc_dt, Prod.mk.injEq]
  grind
theorem pc_ch (m y : pc_M) (h : pc_dt m = 1) : pc_mul m (pc_mul m (pc_mul m y)) = pc_cb3 (pc_tr m) (pc_s2 m) 1 (pc_mul m (pc_mul m y)) (pc_mul m y) y := by
  have e := pc_ch0 m
  rw [h] at e
  have e2 : pc_mul (pc_mul m (pc_mul m m)) y = pc_mul (pc_cb3 (pc_tr m) (pc_s2 m) 1 (pc_mul m m) m pc_1) y := by rw [e]
  rw [pc_cb3_mul, pc_one_mul, pc_assoc m m y, pc_assoc m (pc_mul m m) y, pc_assoc m m y] at e2
  exact e2
theorem pc_trp (m : pc_M) (h : pc_dt m = 1) (k : Nat) : pc_tr (pc_pow m (k + 3)) = pc_tr m * pc_tr (pc_pow m (k + 2)) - pc_s2 m * pc_tr (pc_pow m (k + 1)) + pc_tr (pc_pow m k) := by
  show pc_tr (pc_mul m (pc_mul m (pc_mul m (pc_pow m k)))) = pc_tr m * pc_tr (pc_mul m (pc_mul m (pc_pow m k))) - pc_s2 m * pc_tr (pc_mul m (pc_pow m k)) + pc_tr (pc_pow m k)
  rw [pc_ch m (pc_pow m k) h, pc_tr_cb3]
theorem pc_lin (t s a b c : Int) : (t * (c % 4294967296) - s * (b % 4294967296) + a % 4294967296) % 4294967296 = (t * c - s * b + a) % 4294967296 := by
  have ha := Int.emod_def a 4294967296
  have hb := Int.emod_def b 4294967296
  have hc := Int.emod_def c 4294967296
  generalize a / 4294967296 = a' at ha
  generalize b / 4294967296 = b' at hb
  generalize c / 4294967296 = c' at hc
  rw [ha, hb, hc]
  have k : t * c - s * b + a = (t * (c - 4294967296 * c') - s * (b - 4294967296 * b') + (a - 4294967296 * a')) + 4294967296 * (t * c' - s * b' + a') := by
    grind
  rw [k, Int.add_mul_emod_self_left]
def pc_run (t s : Int) : Nat → Int → Int → Int → Int → Int → Int → Bool
  | 0, _, _, _, _, _, _ => true
  | n + 1, a, b, c, a', b', c' => (!(a == 3 && a' == 3)) && pc_run t s n b c ((t * c - s * b + a) % 4294967296) b' c' ((s * c' - t * b' + a') % 4294967296)
theorem pc_run_ok (t s : Int) (f g : Nat → Int) (hf : ∀ k, f (k + 3) = t * f (k + 2) - s * f (k + 1) + f k) (hg : ∀ k, g (k + 3) = s * g (k + 2) - t * g (k + 1) + g k) : ∀ n k, pc_run t s n (f k % 4294967296) (f (k + 1) % 4294967296) (f (k + 2) % 4294967296) (g k % 4294967296) (g (k + 1) % 4294967296) (g (k + 2) % 4294967296) = true → ∀ i, i < n → ¬ (f (k + i) % 4294967296 = 3 ∧ g (k + i) % 4294967296 = 3)
  | 0, _, _, i, hi => absurd hi (Nat.not_lt_zero _)
  | n + 1, k, hr, i, hi => by
    unfold pc_run at hr
    rw [Bool.and_eq_true] at hr
    obtain ⟨h1, h2⟩ := hr
    cases i with
    | zero =>
      intro c
      obtain ⟨c1, c2⟩ := c
      rw [Nat.add_zero] at c1 c2
      rw [c1, c2] at h1
      exact absurd h1 (by decide)
    | succ i =>
      rw [pc_lin, pc_lin, ← hf k, ← hg k] at h2
      have e : k + (i + 1) = k + 1 + i := by omega
      rw [e]
      exact pc_run_ok t s f g hf hg n (k + 1) h2 i (by omega)
def pc_ts (t s : Int) : Bool := pc_run t s 96 (t % 4294967296) ((t * t - 2 * s) % 4294967296) ((t * (t * t - 2 * s) - s * t + 3) % 4294967296) (s % 4294967296) ((s * s - 2 * t) % 4294967296) ((s * (s * s - 2 * t) - t * s + 3) % 4294967296)
theorem pc_cg_tr {x : pc_M} (h : pc_cg x pc_1) : pc_tr x % 4294967296 = 3 := by
  obtain ⟨a1, a2, a3, a4, a5, a6, a7, a8, a9⟩ := x
  simp only [pc_cg, pc_md, pc_1, Prod.mk.injEq] at h
  simp only [pc_tr]
  omega
theorem pc_tr1 (m : pc_M) : pc_tr (pc_pow m 1) = pc_tr m := by rw [pc_pow_one]
theorem pc_pow_two (m : pc_M) : pc_pow m 2 = pc_mul m m := by
  show pc_mul m (pc_mul m pc_1) = _
  rw [pc_mul_one]
theorem pc_tr2 (m : pc_M) : pc_tr (pc_pow m 2) = pc_tr m * pc_tr m - 2 * pc_s2 m := by rw [pc_pow_two, pc_tr_sq]
theorem pc_tr3 (m : pc_M) (h : pc_dt m = 1) : pc_tr (pc_pow m 3) = pc_tr m * (pc_tr m * pc_tr m - 2 * pc_s2 m) - pc_s2 m * pc_tr m + 3 := by
  have e := pc_trp m h 0
  have e0 : pc_tr (pc_pow m 0) = 3 := rfl
  rw [e0, Nat.zero_add, Nat.zero_add, Nat.zero_add, pc_tr1, pc_tr2] at e
  exact e
theorem pc_ts_ok {m : pc_M} (h : pc_dt m = 1) (ht : pc_ts (pc_tr m) (pc_s2 m) = true) {K : Nat} (h1 : 1 ≤ K) (h2 : K ≤ 96) (hc : pc_cg (pc_pow m K) pc_1) : False := by
  have hm : pc_mul (pc_adj m) m = pc_1 := pc_adj_mul h
  have hm' : pc_mul m (pc_adj m) = pc_1 := pc_mul_adj h
  have hd : pc_dt (pc_adj m) = 1 := by
    have e : pc_dt (pc_mul (pc_adj m) m) = pc_dt pc_1 := by rw [hm]
    rw [pc_dt_mul, h, Int.mul_one, pc_dt_1] at e
    exact e
  have e1 : pc_mul (pc_pow (pc_adj m) K) (pc_pow m K) = pc_1 := by
    rw [← pc_pow_mulc (hm.trans hm'.symm), hm, pc_pow_1]
  have hc' : pc_cg (pc_pow (pc_adj m) K) pc_1 := by
    have e2 := pc_cg_mul (pc_cg_refl (pc_pow (pc_adj m) K)) hc
    rw [e1, pc_mul_one] at e2
    exact e2.symm
  have hs : pc_s2 (pc_adj m) = pc_tr m := by rw [pc_s2_adj, h, Int.one_mul]
  have htr : pc_tr (pc_adj m) = pc_s2 m := pc_tr_adj m
  have hg := fun k => pc_trp (pc_adj m) hd k
  rw [hs, htr] at hg
  have r := pc_run_ok (pc_tr m) (pc_s2 m) (fun k => pc_tr (pc_pow m k)) (fun k => pc_tr (pc_pow (pc_adj m) k)) (fun k => pc_trp m h k) hg 96 1 (by
    show pc_run (pc_tr m) (pc_s2 m) 96 (pc_tr (pc_pow m 1) % 4294967296) (pc_tr (pc_pow m 2) % 4294967296) (pc_tr (pc_pow m 3) % 4294967296) (pc_tr (pc_pow (pc_adj m) 1) % 4294967296) (pc_tr (pc_pow (pc_adj m) 2) % 4294967296) (pc_tr (pc_pow (pc_adj m) 3) % 4294967296) = true
    rw [pc_tr1, pc_tr2, pc_tr3 m h, pc_tr1, pc_tr2, pc_tr3 (pc_adj m) hd, hs, htr]
    exact ht) (K - 1) (by omega)
  have e3 : 1 + (K - 1) = K := by omega
  rw [e3] at r
  exact r ⟨pc_cg_tr hc, pc_cg_tr hc'⟩
def pc_g5 (t s : Int) : Bool := t == s && (t == 0 || t == 1 || t == 2 || t == 3 || t == -1)
def pc_box : Bool := (List.range 19).all fun i => (List.range 19).all fun j => pc_g5 ((i : Int) - 9) ((j : Int) - 9) || pc_ts ((i : Int) - 9) ((j : Int) - 9)
theorem pc_box_ok : pc_box = true := by decide +kernel
theorem pc_box_use {t s : Int} (ht : -9 ≤ t ∧ t ≤ 9) (hs : -9 ≤ s ∧ s ≤ 9) : pc_g5 t s = true ∨ pc_ts t s = true := by
  have h := pc_box_ok
  unfold pc_box at h
  rw [List.all_eq_true] at h
  have h1 := h (t + 9).toNat (List.mem_range.mpr (by omega))
  rw [List.all_eq_true] at h1
  have h2 := h1 (s + 9).toNat (List.mem_range.mpr (by omega))
  have e1 : (((t + 9).toNat : Nat) : Int) - 9 = t := by omega
  have e2 : (((s + 9).toNat : Nat) : Int) - 9 = s := by omega
  rw [e1, e2, Bool.or_eq_true] at h2
  exact h2
def pc_tri : Nat → Int
  | 0 => 0
  | n + 1 => pc_tri n + n
theorem pc_tri_le : ∀ k, k < 49 → 0 ≤ pc_tri k ∧ pc_tri k ≤ 1128 := by decide
theorem pc_quad (x : Nat → Int) (h : ∀ k, x (k + 3) = 3 * x (k + 2) - 3 * x (k + 1) + x k) : ∀ k : Nat, x k = x 0 + k * (x 1 - x 0) + pc_tri k * (x 2 - 2 * x 1 + x 0) ∧ x (k + 1) = x 0 + (k + 1) * (x 1 - x 0) + (pc_tri k + k) * (x 2 - 2 * x 1 + x 0) ∧ x (k + 2) = x 0 + (k + 2) * (x 1 - x 0) + (pc_tri k + k + (k + 1)) * (x 2 - 2 * x 1 + x 0)
  | 0 => by
    have e : pc_tri 0 = 0 := rfl
    rw [e]
    refine ⟨?_, ?_, ?_⟩
    · show x 0 = x 0 + 0 * (x 1 - x 0) + 0 * (x 2 - 2 * x 1 + x 0)
      omega
    · show x 1 = x 0 + (0 + 1) * (x 1 - x 0) + (0 + 0) * (x 2 - 2 * x 1 + x 0)
      omega
    · show x 2 = x 0 + (0 + 2) * (x 1 - x 0) + (0 + 0 + (0 + 1)) * (x 2 - 2 * x 1 + x 0)
      omega
  | k + 1 => by
    obtain ⟨a, b, c⟩ := pc_quad x h k
    have e : pc_tri (k + 1) = pc_tri k + k := rfl
    have d := h k
    rw [e]
    have ec : ((k + 1 : Nat) : Int) = k + 1 := rfl
    rw [ec]
    have e3 : k + 1 + 2 = k + 3 := rfl
    have e2 : k + 1 + 1 = k + 2 := rfl
    rw [e3, e2]
    refine ⟨b, ?_, ?_⟩
    · rw [c]
      grind
    · rw [d, c, b, a]
      grind
theorem pc_mb {k a K A : Int} (h0 : 0 ≤ k) (h1 : k ≤ K) (h2 : -A ≤ a) (h3 : a ≤ A) : -(K * A) ≤ k * a ∧ k * a ≤ K * A := by
  have hA : 0 ≤ A := by omega
  have h4 : k * a ≤ k * A := Int.mul_le_mul_of_nonneg_left h3 h0
  have h5 : k * A ≤ K * A := Int.mul_le_mul_of_nonneg_right h1 hA
  have h6 : k * -A ≤ k * a := Int.mul_le_mul_of_nonneg_left h2 h0
  rw [Int.mul_neg] at h6
  omega
theorem pc_quad0 {x : Nat → Int} (h : ∀ k, x (k + 3) = 3 * x (k + 2) - 3 * x (k + 1) + x k) {k : Nat} (k1 : 1 ≤ k) (k2 : k ≤ 48) (m0 : x k % 4294967296 = x 0 % 4294967296) (m1 : x (k + 1) % 4294967296 = x 1 % 4294967296) (b1 : -201 ≤ x 1 - x 0 ∧ x 1 - x 0 ≤ 201) (b2 : -130000 ≤ x 2 - 2 * x 1 + x 0 ∧ x 2 - 2 * x 1 + x 0 ≤ 130000) : x 1 = x 0 := by
  obtain ⟨q0, q1, _⟩ := pc_quad x h k
  have t := pc_tri_le k (by omega)
  generalize x 2 - 2 * x 1 + x 0 = e at b2 q0 q1
  have hd : x 1 = x 0 + (x 1 - x 0) := by omega
  generalize hdd : x 1 - x 0 = d at b1 q0 q1 hd
  have kk : (0 : Int) ≤ k ∧ (k : Int) ≤ 48 ∧ (1 : Int) ≤ k := by omega
  have p1 := pc_mb kk.1 kk.2.1 b1.1 b1.2
  have p2 := pc_mb kk.1 kk.2.1 b2.1 b2.2
  have p3 := pc_mb t.1 t.2 b2.1 b2.2
  rw [Int.add_mul] at q1
  rw [Int.add_mul (pc_tri k)] at q1
  rw [Int.one_mul] at q1
  have z1 : (k : Int) * e = 0 := by omega
  have z2 : e = 0 := by
    rcases Int.mul_eq_zero.mp z1 with c | c
    · omega
    · exact c
  subst z2
  rw [Int.mul_zero] at q0
  have z3 : (k : Int) * d = 0 := by omega
  rcases Int.mul_eq_zero.mp z3 with c | c
  · omega
  · omega
theorem pc_uniP {u : pc_M} (hd : pc_dt u = 1) (ht : pc_tr u = 3) (hs : pc_s2 u = 3) {k : Nat} (k1 : 1 ≤ k) (k2 : k ≤ 48) (hc : pc_cg (pc_pow u k) pc_1) (P : pc_M → Int) (hP : ∀ a b c, P (pc_cb3 3 3 1 a b c) = 3 * P a - 3 * P b + P c) (hm : ∀ x y, pc_cg x y → P x % 4294967296 = P y % 4294967296) (b1 : -201 ≤ P u - P pc_1 ∧ P u - P pc_1 ≤ 201) (b2 : -130000 ≤ P (pc_mul u u) - 2 * P u + P pc_1 ∧ P (pc_mul u u) - 2 * P u + P pc_1 ≤ 130000) : P u = P pc_1 := by
  have h1 : pc_pow u 1 = u := pc_pow_one u
  have h2 : pc_pow u 2 = pc_mul u u := pc_pow_two u
  have hc1 : pc_cg (pc_pow u (k + 1)) u := by
    have e := pc_cg_mul (pc_cg_refl u) hc
    rw [pc_mul_one] at e
    exact e
  have q := pc_quad0 (x := fun j => P (pc_pow u j)) (fun j => by
    show P (pc_mul u (pc_mul u (pc_mul u (pc_pow u j)))) = 3 * P (pc_mul u (pc_mul u (pc_pow u j))) - 3 * P (pc_mul u (pc_pow u j)) + P (pc_pow u j)
    rw [pc_ch u (pc_pow u j) hd, ht, hs, hP]) k1 k2 (hm _ _ hc) (by
    show P (pc_pow u (k + 1)) % 4294967296 = P (pc_pow u 1) % 4294967296
    rw [h1]
    exact hm _ _ hc1) (by
    show -201 ≤ P (pc_pow u 1) - P pc_1 ∧ P (pc_pow u 1) - P pc_1 ≤ 201
    rw [h1]
    exact b1) (by
    show -130000 ≤ P (pc_pow u 2) - 2 * P (pc_pow u 1) + P pc_1 ∧ P (pc_pow u 2) - 2 * P (pc_pow u 1) + P pc_1 ≤ 130000
    rw [h1, h2]
    exact b2)
  have q' : P (pc_pow u 1) = P pc_1 := q
  rw [h1] at q'
  exact q'
theorem pc_ab {a b n m : Int} (h1 : -n ≤ a) (h2 : a ≤ n) (h3 : -m ≤ b) (h4 : b ≤ m) : -(n * m) ≤ a * b ∧ a * b ≤ n * m := by
  have hn : 0 ≤ n := by omega
  by_cases h : 0 ≤ a
  · exact pc_mb h h2 h3 h4
  · have k := pc_mb (k := -a) (a := b) (K := n) (A := m) (by omega) (by omega) h3 h4
    rw [Int.neg_mul] at k
    omega
theorem pc_le_mul {x y : pc_M} {n m : Int} (hx : pc_le n x) (hy : pc_le m y) : pc_le (3 * (n * m)) (pc_mul x y) := by
  obtain ⟨a1, a2, a3, a4, a5, a6, a7, a8, a9⟩ := x
  obtain ⟨b1, b2, b3, b4, b5, b6, b7, b8, b9⟩ := y
  simp only [pc_le] at hx hy
  obtain ⟨⟨x1, x1'⟩, ⟨x2, x2'⟩, ⟨x3, x3'⟩, ⟨x4, x4'⟩, ⟨x5, x5'⟩, ⟨x6, x6'⟩, ⟨x7, x7'⟩, ⟨x8, x8'⟩, ⟨x9, x9'⟩⟩ := hx
  obtain ⟨⟨y1, y1'⟩, ⟨y2, y2'⟩, ⟨y3, y3'⟩, ⟨y4, y4'⟩, ⟨y5, y5'⟩, ⟨y6, y6'⟩, ⟨y7, y7'⟩, ⟨y8, y8'⟩, ⟨y9, y9'⟩⟩ := hy
  simp only [pc_le, pc_mul]
  refine ⟨?_, ?_, ?_, ?_, ?_, ?_, ?_, ?_, ?_⟩
  · have p0 := pc_ab x1 x1' y1 y1'; have p1 := pc_ab x2 x2' y4 y4'; have p2 := pc_ab x3 x3' y7 y7'; clear x1 x1' y1 y1' x2 x2' y2 y2' x3 x3' y3 y3' x4 x4' y4 y4' x5 x5' y5 y5' x6 x6' y6 y6' x7 x7' y7 y7' x8 x8' y8 y8' x9 x9' y9 y9'; omega
  · have p0 := pc_ab x1 x1' y2 y2'; have p1 := pc_ab x2 x2' y5 y5'; have p2 := pc_ab x3 x3' y8 y8'; clear x1 x1' y1 y1' x2 x2' y2 y2' x3 x3' y3 y3' x4 x4' y4 y4' x5 x5' y5 y5' x6 x6' y6 y6' x7 x7' y7 y7' x8 x8' y8 y8' x9 x9' y9 y9'; omega
  · have p0 := pc_ab x1 x1' y3 y3'; have p1 := pc_ab x2 x2' y6 y6'; have p2 := pc_ab x3 x3' y9 y9'; clear x1 x1' y1 y1' x2 x2' y2 y2' x3 x3' y3 y3' x4 x4' y4 y4' x5 x5' y5 y5' x6 x6' y6 y6' x7 x7' y7 y7' x8 x8' y8 y8' x9 x9' y9 y9'; omega
  · have p0 := pc_ab x4 x4' y1 y1'; have p1 := pc_ab x5 x5' y4 y4'; have p2 := pc_ab x6 x6' y7 y7'; clear x1 x1' y1 y1' x2 x2' y2 y2' x3 x3' y3 y3' x4 x4' y4 y4' x5 x5' y5 y5' x6 x6' y6 y6' x7 x7' y7 y7' x8 x8' y8 y8' x9 x9' y9 y9'; omega
  · have p0 := pc_ab x4 x4' y2 y2'; have p1 := pc_ab x5 x5' y5 y5'; have p2 := pc_ab x6 x6' y8 y8'; clear x1 x1' y1 y1' x2 x2' y2 y2' x3 x3' y3 y3' x4 x4' y4 y4' x5 x5' y5 y5' x6 x6' y6 y6' x7 x7' y7 y7' x8 x8' y8 y8' x9 x9' y9 y9'; omega
  · have p0 := pc_ab x4 x4' y3 y3'; have p1 := pc_ab x5 x5' y6 y6'; have p2 := pc_ab x6 x6' y9 y9'; clear x1 x1' y1 y1' x2 x2' y2 y2' x3 x3' y3 y3' x4 x4' y4 y4' x5 x5' y5 y5' x6 x6' y6 y6' x7 x7' y7 y7' x8 x8' y8 y8' x9 x9' y9 y9'; omega
  · have p0 := pc_ab x7 x7' y1 y1'; have p1 := pc_ab x8 x8' y4 y4'; have p2 := pc_ab x9 x9' y7 y7'; clear x1 x1' y1 y1' x2 x2' y2 y2' x3 x3' y3 y3' x4 x4' y4 y4' x5 x5' y5 y5' x6 x6' y6 y6' x7 x7' y7 y7' x8 x8' y8 y8' x9 x9' y9 y9'; omega
  · have p0 := pc_ab x7 x7' y2 y2'; have p1 := pc_ab x8 x8' y5 y5'; have p2 := pc_ab x9 x9' y8 y8'; clear x1 x1' y1 y1' x2 x2' y2 y2' x3 x3' y3 y3' x4 x4' y4 y4' x5 x5' y5 y5' x6 x6' y6 y6' x7 x7' y7 y7' x8 x8' y8 y8' x9 x9' y9 y9'; omega
  · have p0 := pc_ab x7 x7' y3 y3'; have p1 := pc_ab x8 x8' y6 y6'; have p2 := pc_ab x9 x9' y9 y9'; clear x1 x1' y1 y1' x2 x2' y2 y2' x3 x3' y3 y3' x4 x4' y4 y4' x5 x5' y5 y5' x6 x6' y6 y6' x7 x7' y7 y7' x8 x8' y8 y8' x9 x9' y9 y9'; omega
theorem pc_uni {u : pc_M} (hd : pc_dt u = 1) (ht : pc_tr u = 3) (hs : pc_s2 u = 3) (hl : pc_le 200 u) {k : Nat} (k1 : 1 ≤ k) (k2 : k ≤ 48) (hc : pc_cg (pc_pow u k) pc_1) : u = pc_1 := by
  have hq := pc_le_mul hl hl
  have e1 := pc_uniP hd ht hs k1 k2 hc (fun x => x.1) (fun a b c => by
    show 3 * a.1 - 3 * b.1 + 1 * c.1 = 3 * a.1 - 3 * b.1 + c.1
    rw [Int.one_mul]) (fun x y h => by
    have e := congrArg (fun x : pc_M => x.1) h
    exact e) (by
    have c := hl
    unfold pc_le at c
    show -201 ≤ u.1 - 1 ∧ u.1 - 1 ≤ 201
    omega) (by
    have c := hl
    have d := hq
    unfold pc_le at c d
    generalize pc_mul u u = v at d
    show -130000 ≤ v.1 - 2 * u.1 + 1 ∧ v.1 - 2 * u.1 + 1 ≤ 130000
    omega)
  have e2 := pc_uniP hd ht hs k1 k2 hc (fun x => x.2.1) (fun a b c => by
    show 3 * a.2.1 - 3 * b.2.1 + 1 * c.2.1 = 3 * a.2.1 - 3 * b.2.1 + c.2.1
    rw [Int.one_mul]) (fun x y h => by
    have e := congrArg (fun x : pc_M => x.2.1) h
    exact e) (by
    have c := hl
    unfold pc_le at c
    show -201 ≤ u.2.1 - 0 ∧ u.2.1 - 0 ≤ 201
    omega) (by
    have c := hl
    have d := hq
    unfold pc_le at c d
    generalize pc_mul u u = v at d
    show -130000 ≤ v.2.1 - 2 * u.2.1 + 0 ∧ v.2.1 - 2 * u.2.1 + 0 ≤ 130000
    omega)
  have e3 := pc_uniP hd ht hs k1 k2 hc (fun x => x.2.2.1) (fun a b c => by
    show 3 * a.2.2.1 - 3 * b.2.2.1 + 1 * c.2.2.1 = 3 * a.2.2.1 - 3 * b.2.2.1 + c.2.2.1
    rw [Int.one_mul]) (fun x y h => by
    have e := congrArg (fun x : pc_M => x.2.2.1) h
    exact e) (by
    have c := hl
    unfold pc_le at c
    show -201 ≤ u.2.2.1 - 0 ∧ u.2.2.1 - 0 ≤ 201
    omega) (by
    have c := hl
    have d := hq
    unfold pc_le at c d
    generalize pc_mul u u = v at d
    show -130000 ≤ v.2.2.1 - 2 * u.2.2.1 + 0 ∧ v.2.2.1 - 2 * u.2.2.1 + 0 ≤ 130000
    omega)
  have e4 := pc_uniP hd ht hs k1 k2 hc (fun x => x.2.2.2.1) (fun a b c => by
    show 3 * a.2.2.2.1 - 3 * b.2.2.2.1 + 1 * c.2.2.2.1 = 3 * a.2.2.2.1 - 3 * b.2.2.2.1 + c.2.2.2.1
    rw [Int.one_mul]) (fun x y h => by
    have e := congrArg (fun x : pc_M => x.2.2.2.1) h
    exact e) (by
    have c := hl
    unfold pc_le at c
    show -201 ≤ u.2.2.2.1 - 0 ∧ u.2.2.2.1 - 0 ≤ 201
    omega) (by
    have c := hl
    have d := hq
    unfold pc_le at c d
    generalize pc_mul u u = v at d
    show -130000 ≤ v.2.2.2.1 - 2 * u.2.2.2.1 + 0 ∧ v.2.2.2.1 - 2 * u.2.2.2.1 + 0 ≤ 130000
    omega)
  have e5 := pc_uniP hd ht hs k1 k2 hc (fun x => x.2.2.2.2.1) (fun a b c => by
    show 3 * a.2.2.2.2.1 - 3 * b.2.2.2.2.1 + 1 * c.2.2.2.2.1 = 3 * a.2.2.2.2.1 - 3 * b.2.2.2.2.1 + c.2.2.2.2.1
    rw [Int.one_mul]) (fun x y h => by
    have e := congrArg (fun x : pc_M => x.2.2.2.2.1) h
    exact e) (by
    have c := hl
    unfold pc_le at c
    show -201 ≤ u.2.2.2.2.1 - 1 ∧ u.2.2.2.2.1 - 1 ≤ 201
    omega) (by
    have c := hl
    have d := hq
    unfold pc_le at c d
    generalize pc_mul u u = v at d
    show -130000 ≤ v.2.2.2.2.1 - 2 * u.2.2.2.2.1 + 1 ∧ v.2.2.2.2.1 - 2 * u.2.2.2.2.1 + 1 ≤ 130000
    omega)
  have e6 := pc_uniP hd ht hs k1 k2 hc (fun x => x.2.2.2.2.2.1) (fun a b c => by
    show 3 * a.2.2.2.2.2.1 - 3 * b.2.2.2.2.2.1 + 1 * c.2.2.2.2.2.1 = 3 * a.2.2.2.2.2.1 - 3 * b.2.2.2.2.2.1 + c.2.2.2.2.2.1
    rw [Int.one_mul]) (fun x y h => by
    have e := congrArg (fun x : pc_M => x.2.2.2.2.2.1) h
    exact e) (by
    have c := hl
    unfold pc_le at c
    show -201 ≤ u.2.2.2.2.2.1 - 0 ∧ u.2.2.2.2.2.1 - 0 ≤ 201
    omega) (by
    have c := hl
    have d := hq
    unfold pc_le at c d
    generalize pc_mul u u = v at d
    show -130000 ≤ v.2.2.2.2.2.1 - 2 * u.2.2.2.2.2.1 + 0 ∧ v.2.2.2.2.2.1 - 2 * u.2.2.2.2.2.1 + 0 ≤ 130000
    omega)
  have e7 := pc_uniP hd ht hs k1 k2 hc (fun x => x.2.2.2.2.2.2.1) (fun a b c => by
    show 3 * a.2.2.2.2.2.2.1 - 3 * b.2.2.2.2.2.2.1 + 1 * c.2.2.2.2.2.2.1 = 3 * a.2.2.2.2.2.2.1 - 3 * b.2.2.2.2.2.2.1 + c.2.2.2.2.2.2.1
    rw [Int.one_mul]) (fun x y h => by
    have e := congrArg (fun x : pc_M => x.2.2.2.2.2.2.1) h
    exact e) (by
    have c := hl
    unfold pc_le at c
    show -201 ≤ u.2.2.2.2.2.2.1 - 0 ∧ u.2.2.2.2.2.2.1 - 0 ≤ 201
    omega) (by
    have c := hl
    have d := hq
    unfold pc_le at c d
    generalize pc_mul u u = v at d
    show -130000 ≤ v.2.2.2.2.2.2.1 - 2 * u.2.2.2.2.2.2.1 + 0 ∧ v.2.2.2.2.2.2.1 - 2 * u.2.2.2.2.2.2.1 + 0 ≤ 130000
    omega)
  have e8 := pc_uniP hd ht hs k1 k2 hc (fun x => x.2.2.2.2.2.2.2.1) (fun a b c => by
    show 3 * a.2.2.2.2.2.2.2.1 - 3 * b.2.2.2.2.2.2.2.1 + 1 * c.2.2.2.2.2.2.2.1 = 3 * a.2.2.2.2.2.2.2.1 - 3 * b.2.2.2.2.2.2.2.1 + c.2.2.2.2.2.2.2.1
    rw [Int.one_mul]) (fun x y h => by
    have e := congrArg (fun x : pc_M => x.2.2.2.2.2.2.2.1) h
    exact e) (by
    have c := hl
    unfold pc_le at c
    show -201 ≤ u.2.2.2.2.2.2.2.1 - 0 ∧ u.2.2.2.2.2.2.2.1 - 0 ≤ 201
    omega) (by
    have c := hl
    have d := hq
    unfold pc_le at c d
    generalize pc_mul u u = v at d
    show -130000 ≤ v.2.2.2.2.2.2.2.1 - 2 * u.2.2.2.2.2.2.2.1 + 0 ∧ v.2.2.2.2.2.2.2.1 - 2 * u.2.2.2.2.2.2.2.1 + 0 ≤ 130000
    omega)
  have e9 := pc_uniP hd ht hs k1 k2 hc (fun x => x.2.2.2.2.2.2.2.2) (fun a b c => by
    show 3 * a.2.2.2.2.2.2.2.2 - 3 * b.2.2.2.2.2.2.2.2 + 1 * c.2.2.2.2.2.2.2.2 = 3 * a.2.2.2.2.2.2.2.2 - 3 * b.2.2.2.2.2.2.2.2 + c.2.2.2.2.2.2.2.2
    rw [Int.one_mul]) (fun x y h => by
    have e := congrArg (fun x : pc_M => x.2.2.2.2.2.2.2.2) h
    exact e) (by
    have c := hl
    unfold pc_le at c
    show -201 ≤ u.2.2.2.2.2.2.2.2 - 1 ∧ u.2.2.2.2.2.2.2.2 - 1 ≤ 201
    omega) (by
    have c := hl
    have d := hq
    unfold pc_le at c d
    generalize pc_mul u u = v at d
    show -130000 ≤ v.2.2.2.2.2.2.2.2 - 2 * u.2.2.2.2.2.2.2.2 + 1 ∧ v.2.2.2.2.2.2.2.2 - 2 * u.2.2.2.2.2.2.2.2 + 1 ≤ 130000
    omega)
  obtain ⟨a1, a2, a3, a4, a5, a6, a7, a8, a9⟩ := u
  show _ = (1, 0, 0, 0, 1, 0, 0, 0, 1)
  simp only [Prod.mk.injEq]
  exact ⟨e1, e2, e3, e4, e5, e6, e7, e8, e9⟩
def pc_eqb (x y : pc_M) : Bool := x.1 == y.1 && x.2.1 == y.2.1 && x.2.2.1 == y.2.2.1 && x.2.2.2.1 == y.2.2.2.1 && x.2.2.2.2.1 == y.2.2.2.2.1 && x.2.2.2.2.2.1 == y.2.2.2.2.2.1 && x.2.2.2.2.2.2.1 == y.2.2.2.2.2.2.1 && x.2.2.2.2.2.2.2.1 == y.2.2.2.2.2.2.2.1 && x.2.2.2.2.2.2.2.2 == y.2.2.2.2.2.2.2.2
theorem pc_eqb_eq {x y : pc_M} (h : pc_eqb x y = true) : x = y := by
  obtain ⟨a1, a2, a3, a4, a5, a6, a7, a8, a9⟩ := x
  obtain ⟨b1, b2, b3, b4, b5, b6, b7, b8, b9⟩ := y
  simp only [pc_eqb, Bool.and_eq_true, beq_iff_eq] at h
  simp only [Prod.mk.injEq]
  omega
theorem pc_eqb_self (x : pc_M) : pc_eqb x x = true := by
  simp only [pc_eqb, beq_self_eq_true, Bool.and_self]
def pc_gd (m : pc_M) : Bool := (pc_tr m == pc_s2 m && (pc_tr m == 0 || pc_tr m == 1 || pc_tr m == 2)) || pc_eqb (pc_mul m m) pc_1
def pc_rg (m : pc_M) : Bool := Nat.ble (Int.natAbs m.1) 8 && Nat.ble (Int.natAbs m.2.1) 8 && Nat.ble (Int.natAbs m.2.2.1) 8 && Nat.ble (Int.natAbs m.2.2.2.1) 8 && Nat.ble (Int.natAbs m.2.2.2.2.1) 8 && Nat.ble (Int.natAbs m.2.2.2.2.2.1) 8 && Nat.ble (Int.natAbs m.2.2.2.2.2.2.1) 8 && Nat.ble (Int.natAbs m.2.2.2.2.2.2.2.1) 8 && Nat.ble (Int.natAbs m.2.2.2.2.2.2.2.2) 8 && Nat.ble (Int.natAbs (pc_tr m)) 9 && Nat.ble (Int.natAbs (pc_s2 m)) 9
def pc_bad (m : pc_M) : Bool := !(pc_gd m) && pc_rg m
theorem pc_gd_ok {m : pc_M} (h : pc_dt m = 1) (hr : pc_rg m = true) {k : Nat} (k1 : 1 ≤ k) (k2 : k ≤ 48) (hc : pc_cg (pc_pow m (2 * k)) pc_1) : pc_gd m = true := by
  unfold pc_rg at hr
  simp only [Bool.and_eq_true] at hr
  obtain ⟨⟨⟨⟨⟨⟨⟨⟨⟨⟨r1, r2⟩, r3⟩, r4⟩, r5⟩, r6⟩, r7⟩, r8⟩, r9⟩, rt⟩, rs⟩ := hr
  have r1 := Nat.le_of_ble_eq_true r1
  have r2 := Nat.le_of_ble_eq_true r2
  have r3 := Nat.le_of_ble_eq_true r3
  have r4 := Nat.le_of_ble_eq_true r4
  have r5 := Nat.le_of_ble_eq_true r5
  have r6 := Nat.le_of_ble_eq_true r6
  have r7 := Nat.le_of_ble_eq_true r7
  have r8 := Nat.le_of_ble_eq_true r8
  have r9 := Nat.le_of_ble_eq_true r9
  have rt := Nat.le_of_ble_eq_true rt
  have rs := Nat.le_of_ble_eq_true rs
  rcases pc_box_use (t := pc_tr m) (s := pc_s2 m) (by omega) (by omega) with g | g
  · unfold pc_g5 at g
    simp only [Bool.and_eq_true, Bool.or_eq_true, beq_iff_eq] at g
    obtain ⟨e, g⟩ := g
    unfold pc_gd
    rw [Bool.or_eq_true]
    have main : pc_tr m = 3 ∨ pc_tr m = -1 → pc_eqb (pc_mul m m) pc_1 = true := by
      intro c
      have hl : pc_le 8 m := by
        unfold pc_le
        refine ⟨?_, ?_, ?_, ?_, ?_, ?_, ?_, ?_, ?_⟩ <;> omega
      have hq : pc_le 200 (pc_mul m m) := by
        have d := pc_le_mul hl hl
        generalize pc_mul m m = v at d
        unfold pc_le at d
        unfold pc_le
        refine ⟨?_, ?_, ?_, ?_, ?_, ?_, ?_, ?_, ?_⟩ <;> omega
      have ht : pc_tr (pc_mul m m) = 3 := by
        rw [pc_tr_sq]
        rw [← e]
        rcases c with c | c <;> rw [c] <;> decide
      have hs : pc_s2 (pc_mul m m) = 3 := by
        rw [pc_s2_sq, h, ← e]
        rcases c with c | c <;> rw [c] <;> decide
      have hd : pc_dt (pc_mul m m) = 1 := by
        rw [pc_dt_mul, h]
        rfl
      rw [pc_pow_mul m 2 k, pc_pow_two] at hc
      rw [pc_uni hd ht hs hq k1 k2 hc]
      exact pc_eqb_self _
    rcases g with ((((g | g) | g) | g) | g)
    · left
      rw [← e, g]
      decide
    · left
      rw [← e, g]
      decide
    · left
      rw [← e, g]
      decide
    · exact Or.inr (main (Or.inl g))
    · exact Or.inr (main (Or.inr g))
  · exact (pc_ts_ok h g (by omega) (by omega) hc).elim
theorem pc_bad_no {m : pc_M} (h : pc_dt m = 1) {k : Nat} (k1 : 1 ≤ k) (k2 : k ≤ 48) (hc : pc_cg (pc_pow m (2 * k)) pc_1) : pc_bad m = false := by
  cases e : pc_bad m with
  | false => rfl
  | true =>
    unfold pc_bad at e
    rw [Bool.and_eq_true] at e
    have g := pc_gd_ok h e.2 k1 k2 hc
    rw [g] at e
    exact absurd e.1 (by decide)
end PCT
