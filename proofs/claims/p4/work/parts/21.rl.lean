/-! how products grow; cosets -/
section PCL
theorem pc_cl_1 : pc_cl 1 pc_1 := ⟨by decide, by decide, by decide⟩
def pc_xs : Nat → Nat × Nat
  | 0 => (1, 1)
  | n + 1 => (2 * (pc_xs n).1 + (pc_xs n).2, (pc_xs n).1)
theorem pc_xs_le : ∀ n, (pc_xs n).2 ≤ (pc_xs n).1
  | 0 => by decide
  | n + 1 => by
    show (pc_xs n).1 ≤ 2 * (pc_xs n).1 + (pc_xs n).2
    omega
theorem pc_xs_mono (m : Nat) : ∀ k, (pc_xs m).2 ≤ (pc_xs (m + k)).2
  | 0 => Nat.le_refl _
  | k + 1 => by
    have h := pc_xs_mono m k
    have h2 := pc_xs_le (m + k)
    show (pc_xs m).2 ≤ (pc_xs (m + k)).1
    omega
theorem pc_xs_mn {m n : Nat} (h : m ≤ n) : (pc_xs m).2 ≤ (pc_xs n).2 := by
  have k := pc_xs_mono m (n - m)
  have e : m + (n - m) = n := by omega
  rw [e] at k
  exact k
theorem pc_na {a p : Int} : (a * p).natAbs = a.natAbs * p.natAbs := Int.natAbs_mul a p
theorem pc_tri3 (a b c : Int) : (a + b + c).natAbs ≤ a.natAbs + b.natAbs + c.natAbs := by omega
theorem pc_odd {a b c d e f g h i : Int} (h1 : a = 1 ∨ a = -1) (h2 : d = 1 ∨ d = -1) (h3 : g = 1 ∨ g = -1) (h4 : b = 1 ∨ b = -1) (h5 : e = 1 ∨ e = -1) (h6 : h = 1 ∨ h = -1) (hd : a * (e * i - f * h) - b * (d * i - f * g) + c * (d * h - e * g) = 1 ∨ a * (e * i - f * h) - b * (d * i - f * g) + c * (d * h - e * g) = -1) : False := by
  rcases h1 with h1 | h1 <;> rcases h2 with h2 | h2 <;> rcases h3 with h3 | h3 <;> rcases h4 with h4 | h4 <;> rcases h5 with h5 | h5 <;> rcases h6 with h6 | h6 <;> subst h1 h2 h3 h4 h5 h6 <;> omega
theorem pc_mul3 {c : Nat} (h : c ≤ 2) (p : Nat) : c * p ≤ 2 * p := Nat.mul_le_mul_right p h
theorem pc_stc {n1 n2 n3 n4 n5 n6 n7 n8 n9 P Q R s x : Nat} (b1 : n1 ≤ 1) (b2 : n2 ≤ 1) (b3 : n3 ≤ 1) (b4 : n4 ≤ 1) (b5 : n5 ≤ 1) (b6 : n6 ≤ 1) (b7 : n7 ≤ 1) (b8 : n8 ≤ 1) (b9 : n9 ≤ 1) (c12 : ¬ (n1 + n4 + n7 = 3 ∧ n2 + n5 + n8 = 3)) (c13 : ¬ (n1 + n4 + n7 = 3 ∧ n3 + n6 + n9 = 3)) (c23 : ¬ (n2 + n5 + n8 = 3 ∧ n3 + n6 + n9 = 3)) (hs : P + Q + R ≤ s) (hP : P ≤ x) (hQ : Q ≤ x) (hR : R ≤ x) : (n1 * P + n2 * Q + n3 * R) + (n4 * P + n5 * Q + n6 * R) + (n7 * P + n8 * Q + n9 * R) ≤ 2 * s + x := by
  have e : (n1 * P + n2 * Q + n3 * R) + (n4 * P + n5 * Q + n6 * R) + (n7 * P + n8 * Q + n9 * R) = (n1 + n4 + n7) * P + (n2 + n5 + n8) * Q + (n3 + n6 + n9) * R := by
    simp only [Nat.add_mul]
    omega
  rw [e]
  clear e
  generalize hA : n1 + n4 + n7 = A at *
  generalize hB : n2 + n5 + n8 = B at *
  generalize hC : n3 + n6 + n9 = C at *
  by_cases a : A = 3
  · have q1 := pc_mul3 (c := B) (by omega) Q
    have q2 := pc_mul3 (c := C) (by omega) R
    subst a
    omega
  · have q0 := pc_mul3 (c := A) (by omega) P
    by_cases b : B = 3
    · have q2 := pc_mul3 (c := C) (by omega) R
      subst b
      omega
    · have q1 := pc_mul3 (c := B) (by omega) Q
      by_cases c : C = 3
      · subst c
        omega
      · have q2 := pc_mul3 (c := C) (by omega) R
        omega
theorem pc_one1 {n p : Nat} (h : n ≤ 1) : n * p ≤ p := by
  have k := Nat.mul_le_mul_right p h
  omega
theorem pc_row1 {a b c p q r : Int} : (a * p + b * q + c * r).natAbs ≤ a.natAbs * p.natAbs + b.natAbs * q.natAbs + c.natAbs * r.natAbs := by
  have h := pc_tri3 (a * p) (b * q) (c * r)
  rw [pc_na, pc_na, pc_na] at h
  exact h
theorem pc_odd1 {a b c d e f g h i : Int} (a1 : a.natAbs ≤ 1) (d1 : d.natAbs ≤ 1) (g1 : g.natAbs ≤ 1) (b1 : b.natAbs ≤ 1) (e1 : e.natAbs ≤ 1) (h1 : h.natAbs ≤ 1) (hd : a * (e * i - f * h) - b * (d * i - f * g) + c * (d * h - e * g) = 1 ∨ a * (e * i - f * h) - b * (d * i - f * g) + c * (d * h - e * g) = -1) : ¬ (a.natAbs + d.natAbs + g.natAbs = 3 ∧ b.natAbs + e.natAbs + h.natAbs = 3) := by
  intro k
  have k1 : a = 1 ∨ a = -1 := by clear hd; omega
  have k2 : d = 1 ∨ d = -1 := by clear hd; omega
  have k3 : g = 1 ∨ g = -1 := by clear hd; omega
  have k4 : b = 1 ∨ b = -1 := by clear hd; omega
  have k5 : e = 1 ∨ e = -1 := by clear hd; omega
  have k6 : h = 1 ∨ h = -1 := by clear hd; omega
  exact pc_odd k1 k2 k3 k4 k5 k6 hd
theorem pc_odds {a1 a2 a3 a4 a5 a6 a7 a8 a9 : Int} (t1 : a1.natAbs ≤ 1) (t2 : a2.natAbs ≤ 1) (t3 : a3.natAbs ≤ 1) (t4 : a4.natAbs ≤ 1) (t5 : a5.natAbs ≤ 1) (t6 : a6.natAbs ≤ 1) (t7 : a7.natAbs ≤ 1) (t8 : a8.natAbs ≤ 1) (t9 : a9.natAbs ≤ 1) (hu : a1 * (a5 * a9 - a6 * a8) - a2 * (a4 * a9 - a6 * a7) + a3 * (a4 * a8 - a5 * a7) = 1 ∨ a1 * (a5 * a9 - a6 * a8) - a2 * (a4 * a9 - a6 * a7) + a3 * (a4 * a8 - a5 * a7) = -1) : ¬ (a1.natAbs + a4.natAbs + a7.natAbs = 3 ∧ a2.natAbs + a5.natAbs + a8.natAbs = 3) ∧ ¬ (a1.natAbs + a4.natAbs + a7.natAbs = 3 ∧ a3.natAbs + a6.natAbs + a9.natAbs = 3) ∧ ¬ (a2.natAbs + a5.natAbs + a8.natAbs = 3 ∧ a3.natAbs + a6.natAbs + a9.natAbs = 3) := by
  refine ⟨pc_odd1 t1 t4 t7 t2 t5 t8 hu, pc_odd1 (c := a2) (f := a5) (i := a8) t1 t4 t7 t3 t6 t9 ?_, pc_odd1 (c := a1) (f := a4) (i := a7) t2 t5 t8 t3 t6 t9 ?_⟩
  · have e : a1 * (a6 * a8 - a5 * a9) - a3 * (a4 * a8 - a5 * a7) + a2 * (a4 * a9 - a6 * a7) = -(a1 * (a5 * a9 - a6 * a8) - a2 * (a4 * a9 - a6 * a7) + a3 * (a4 * a8 - a5 * a7)) := by
      clear hu
      grind
    rw [e]
    generalize a1 * (a5 * a9 - a6 * a8) - a2 * (a4 * a9 - a6 * a7) + a3 * (a4 * a8 - a5 * a7) = z at hu
    clear t1 t2 t3 t4 t5 t6 t7 t8 t9
    omega
  · have e : a2 * (a6 * a7 - a4 * a9) - a3 * (a5 * a7 - a4 * a8) + a1 * (a5 * a9 - a6 * a8) = a1 * (a5 * a9 - a6 * a8) - a2 * (a4 * a9 - a6 * a7) + a3 * (a4 * a8 - a5 * a7) := by
      clear hu
      grind
    rw [e]
    exact hu
theorem pc_rown {a b c p q r : Int} {n : Nat} (t1 : a.natAbs ≤ 1) (t2 : b.natAbs ≤ 1) (t3 : c.natAbs ≤ 1) (l : p.natAbs + q.natAbs + r.natAbs ≤ n) : (a * p + b * q + c * r).natAbs ≤ n := by
  have z := pc_row1 (a := a) (b := b) (c := c) (p := p) (q := q) (r := r)
  have z1 := pc_one1 (p := p.natAbs) t1
  have z2 := pc_one1 (p := q.natAbs) t2
  have z3 := pc_one1 (p := r.natAbs) t3
  generalize (a * p + b * q + c * r).natAbs = y at *
  omega
theorem pc_stepc {a1 a2 a3 a4 a5 a6 a7 a8 a9 p q r : Int} {n x : Nat} (t1 : a1.natAbs ≤ 1) (t2 : a2.natAbs ≤ 1) (t3 : a3.natAbs ≤ 1) (t4 : a4.natAbs ≤ 1) (t5 : a5.natAbs ≤ 1) (t6 : a6.natAbs ≤ 1) (t7 : a7.natAbs ≤ 1) (t8 : a8.natAbs ≤ 1) (t9 : a9.natAbs ≤ 1) (c12 : ¬ (a1.natAbs + a4.natAbs + a7.natAbs = 3 ∧ a2.natAbs + a5.natAbs + a8.natAbs = 3)) (c13 : ¬ (a1.natAbs + a4.natAbs + a7.natAbs = 3 ∧ a3.natAbs + a6.natAbs + a9.natAbs = 3)) (c23 : ¬ (a2.natAbs + a5.natAbs + a8.natAbs = 3 ∧ a3.natAbs + a6.natAbs + a9.natAbs = 3)) (l : p.natAbs + q.natAbs + r.natAbs ≤ n) (hp : p.natAbs ≤ x) (hq : q.natAbs ≤ x) (hr : r.natAbs ≤ x) : (a1 * p + a2 * q + a3 * r).natAbs + (a4 * p + a5 * q + a6 * r).natAbs + (a7 * p + a8 * q + a9 * r).natAbs ≤ 2 * n + x := by
  have k := pc_stc t1 t2 t3 t4 t5 t6 t7 t8 t9 c12 c13 c23 l hp hq hr
  have r1 := pc_row1 (a := a1) (b := a2) (c := a3) (p := p) (q := q) (r := r)
  have r2 := pc_row1 (a := a4) (b := a5) (c := a6) (p := p) (q := q) (r := r)
  have r3 := pc_row1 (a := a7) (b := a8) (c := a9) (p := p) (q := q) (r := r)
  exact Nat.le_trans (Nat.add_le_add (Nat.add_le_add r1 r2) r3) k
theorem pc_nab {a : Int} {x : Nat} (h : -(x : Int) ≤ a ∧ a ≤ x) : a.natAbs ≤ x := by omega
theorem pc_nab1 {a : Int} (h : -1 ≤ a ∧ a ≤ 1) : a.natAbs ≤ 1 := by omega
theorem pc_ban {a : Int} {x : Nat} (h : a.natAbs ≤ x) : -(x : Int) ≤ a ∧ a ≤ x := by omega
theorem pc_step {s y : pc_M} (hs : pc_le 1 s) (hu : pc_U s) {n x : Nat} (h : pc_cl n y) (hx : pc_le x y) : pc_cl (2 * n + x) (pc_mul s y) ∧ pc_le n (pc_mul s y) := by
  obtain ⟨s1, s2, s3, s4, s5, s6, s7, s8, s9⟩ := hs
  obtain ⟨y1, y2, y3, y4, y5, y6, y7, y8, y9⟩ := hx
  obtain ⟨l1, l2, l3⟩ := h
  have t1 := pc_nab1 s1
  have t2 := pc_nab1 s2
  have t3 := pc_nab1 s3
  have t4 := pc_nab1 s4
  have t5 := pc_nab1 s5
  have t6 := pc_nab1 s6
  have t7 := pc_nab1 s7
  have t8 := pc_nab1 s8
  have t9 := pc_nab1 s9
  obtain ⟨c12, c13, c23⟩ := pc_odds t1 t2 t3 t4 t5 t6 t7 t8 t9 hu
  refine ⟨⟨?_, ?_, ?_⟩, ⟨?_, ?_, ?_, ?_, ?_, ?_, ?_, ?_, ?_⟩⟩
  · exact pc_stepc t1 t2 t3 t4 t5 t6 t7 t8 t9 c12 c13 c23 l1 (pc_nab y1) (pc_nab y4) (pc_nab y7)
  · exact pc_stepc t1 t2 t3 t4 t5 t6 t7 t8 t9 c12 c13 c23 l2 (pc_nab y2) (pc_nab y5) (pc_nab y8)
  · exact pc_stepc t1 t2 t3 t4 t5 t6 t7 t8 t9 c12 c13 c23 l3 (pc_nab y3) (pc_nab y6) (pc_nab y9)
  · exact pc_ban (pc_rown t1 t2 t3 l1)
  · exact pc_ban (pc_rown t1 t2 t3 l2)
  · exact pc_ban (pc_rown t1 t2 t3 l3)
  · exact pc_ban (pc_rown t4 t5 t6 l1)
  · exact pc_ban (pc_rown t4 t5 t6 l2)
  · exact pc_ban (pc_rown t4 t5 t6 l3)
  · exact pc_ban (pc_rown t7 t8 t9 l1)
  · exact pc_ban (pc_rown t7 t8 t9 l2)
  · exact pc_ban (pc_rown t7 t8 t9 l3)
theorem pc_ent {a b c x y z : Int} {n C : Nat} (ha : -(n : Int) ≤ a ∧ a ≤ n) (hb : -(n : Int) ≤ b ∧ b ≤ n) (hc : -(n : Int) ≤ c ∧ c ≤ n) (h : x.natAbs + y.natAbs + z.natAbs ≤ C) : -((n * C : Nat) : Int) ≤ a * x + b * y + c * z ∧ a * x + b * y + c * z ≤ ((n * C : Nat) : Int) := by
  have r := pc_row1 (a := a) (b := b) (c := c) (p := x) (q := y) (r := z)
  have k1 : a.natAbs * x.natAbs ≤ n * x.natAbs := Nat.mul_le_mul_right _ (by omega)
  have k2 : b.natAbs * y.natAbs ≤ n * y.natAbs := Nat.mul_le_mul_right _ (by omega)
  have k3 : c.natAbs * z.natAbs ≤ n * z.natAbs := Nat.mul_le_mul_right _ (by omega)
  have k4 : n * (x.natAbs + y.natAbs + z.natAbs) ≤ n * C := Nat.mul_le_mul_left _ h
  rw [Nat.mul_add, Nat.mul_add] at k4
  generalize n * C = m at *
  omega
theorem pc_le_col {x y : pc_M} {n C : Nat} (hx : pc_le n x) (hy : pc_cl C y) : pc_le ((n * C : Nat) : Int) (pc_mul x y) := by
  obtain ⟨a1, a2, a3, a4, a5, a6, a7, a8, a9⟩ := x
  obtain ⟨b1, b2, b3, b4, b5, b6, b7, b8, b9⟩ := y
  simp only [pc_le] at hx
  simp only [pc_cl] at hy
  obtain ⟨x1, x2, x3, x4, x5, x6, x7, x8, x9⟩ := hx
  obtain ⟨l1, l2, l3⟩ := hy
  simp only [pc_le, pc_mul]
  exact ⟨pc_ent x1 x2 x3 l1, pc_ent x1 x2 x3 l2, pc_ent x1 x2 x3 l3, pc_ent x4 x5 x6 l1, pc_ent x4 x5 x6 l2, pc_ent x4 x5 x6 l3, pc_ent x7 x8 x9 l1, pc_ent x7 x8 x9 l2, pc_ent x7 x8 x9 l3⟩
theorem pc_c3 {a1 a2 a3 a4 a5 a6 a7 a8 a9 p q r : Int} {n C : Nat} (h1 : a1.natAbs + a4.natAbs + a7.natAbs ≤ n) (h2 : a2.natAbs + a5.natAbs + a8.natAbs ≤ n) (h3 : a3.natAbs + a6.natAbs + a9.natAbs ≤ n) (h : p.natAbs + q.natAbs + r.natAbs ≤ C) : (a1 * p + a2 * q + a3 * r).natAbs + (a4 * p + a5 * q + a6 * r).natAbs + (a7 * p + a8 * q + a9 * r).natAbs ≤ n * C := by
  have r1 := pc_row1 (a := a1) (b := a2) (c := a3) (p := p) (q := q) (r := r)
  have r2 := pc_row1 (a := a4) (b := a5) (c := a6) (p := p) (q := q) (r := r)
  have r3 := pc_row1 (a := a7) (b := a8) (c := a9) (p := p) (q := q) (r := r)
  have k1 := Nat.mul_le_mul_right p.natAbs h1
  have k2 := Nat.mul_le_mul_right q.natAbs h2
  have k3 := Nat.mul_le_mul_right r.natAbs h3
  have k4 : n * (p.natAbs + q.natAbs + r.natAbs) ≤ n * C := Nat.mul_le_mul_left _ h
  rw [Nat.mul_add, Nat.mul_add] at k4
  rw [Nat.add_mul, Nat.add_mul] at k1 k2 k3
  omega
theorem pc_cl_mul {x y : pc_M} {n C : Nat} (hx : pc_cl n x) (hy : pc_cl C y) : pc_cl (n * C) (pc_mul x y) := by
  obtain ⟨a1, a2, a3, a4, a5, a6, a7, a8, a9⟩ := x
  obtain ⟨b1, b2, b3, b4, b5, b6, b7, b8, b9⟩ := y
  simp only [pc_cl] at hx hy
  obtain ⟨x1, x2, x3⟩ := hx
  obtain ⟨l1, l2, l3⟩ := hy
  simp only [pc_cl, pc_mul]
  refine ⟨?_, ?_, ?_⟩
  · exact pc_c3 x1 x2 x3 l1
  · exact pc_c3 x1 x2 x3 l2
  · exact pc_c3 x1 x2 x3 l3
theorem pc_B_cb {S : List pc_M} (hS : ∀ s, s ∈ S → pc_le 1 s ∧ pc_U s) : ∀ n x, pc_B S n x → pc_cl (pc_xs n).1 x ∧ pc_le (pc_xs n).2 x
  | 0, x, h => by
    have e : x = pc_1 := h
    rw [e]
    exact ⟨pc_cl_1, pc_cl_le pc_cl_1⟩
  | n + 1, x, h => by
    rcases h with h | ⟨s, hs, y, hy, e⟩
    · have c := pc_B_cb hS n x h
      have l := pc_xs_le n
      refine ⟨pc_cl_mono c.1 ?_, pc_le_mono c.2 ?_⟩
      · show (pc_xs n).1 ≤ 2 * (pc_xs n).1 + (pc_xs n).2
        omega
      · show ((pc_xs n).2 : Int) ≤ ((pc_xs n).1 : Nat)
        omega
    · have c := pc_B_cb hS n y hy
      rw [e]
      exact pc_step (hS s hs).1 (hS s hs).2 c.1 c.2
theorem pc_RL {S : List pc_M} (hS : ∀ s, s ∈ S → pc_le 1 s ∧ pc_U s) (H : pc_H S) (K : pc_M → Prop) (k1 : K pc_1) (km : ∀ x y, K x → K y → K (pc_mul x y)) (ki : ∀ x, K x → ∃ y, K y ∧ pc_mul x y = pc_1) (kw : ∀ x, K x → pc_W S x) {C : Nat} (kc : ∀ x, K x → pc_cl C x) {N : Nat} (d : Nat → pc_M) (dk : ∀ i, i < N → K (d i)) (dd : ∀ i j, i < j → j < N → ¬ pc_cg (d i) (d j)) {J : Nat} (hN : 49 ≤ (J + 2) * N) (hC : (pc_xs J).2 * C ≤ 999) (hJ : J ≤ 7) : ∀ x, pc_W S x → pc_le 999 x := by
  by_cases hcl : ∃ m, m ≤ J ∧ ∀ s, s ∈ S → ∀ x, pc_B S m x → ∃ y k, pc_B S m y ∧ K k ∧ pc_cg (pc_mul s x) (pc_mul y k)
  · obtain ⟨m, hm, cl⟩ := hcl
    have small : ∀ y k, pc_B S m y → K k → pc_le 999 (pc_mul y k) := by
      intro y k hy hk
      have c := pc_le_col (pc_B_cb hS m y hy).2 (kc k hk)
      refine pc_le_mono c ?_
      have q := Nat.mul_le_mul_right C (pc_xs_mn hm)
      omega
    have ex : ∀ x, pc_W S x → ∃ y k, pc_B S m y ∧ K k ∧ x = pc_mul y k := by
      intro x hx
      refine pc_W_ind (Q := fun x => ∃ y k, pc_B S m y ∧ K k ∧ x = pc_mul y k) ?_ ?_ hx
      · exact ⟨pc_1, pc_1, pc_B_le (m := 0) rfl (Nat.zero_le m), k1, (pc_one_mul pc_1).symm⟩
      · intro s hs z _ hz
        obtain ⟨y', k', hy', hk', e⟩ := hz
        obtain ⟨y, k, hy, hk, c⟩ := cl s hs y' hy'
        have b1 : pc_B S (m + 1) (pc_mul s y') := Or.inr ⟨s, hs, y', hy', rfl⟩
        have l1 := (pc_B_cb hS (m + 1) _ b1).2
        have l2 : (pc_xs (m + 1)).2 ≤ 577 := by
          have q := pc_xs_mn (m := m + 1) (n := 8) (by omega)
          have e8 : (pc_xs 8).2 = 577 := by decide
          omega
        have e2 : pc_mul s y' = pc_mul y k := pc_cg_eq c (pc_le_mono l1 (by omega)) (pc_le_mono (small y k hy hk) (by omega))
        refine ⟨y, pc_mul k k', hy, km k k' hk hk', ?_⟩
        rw [e, ← pc_assoc, e2, pc_assoc]
    intro x hx
    obtain ⟨y, k, hy, hk, e⟩ := ex x hx
    rw [e]
    exact small y k hy hk
  · exfalso
    have no : ∀ m, ∃ v, m ≤ J → (pc_B S (m + 1) v ∧ ∀ y k, pc_B S m y → K k → ¬ pc_cg v (pc_mul y k)) := by
      intro m
      by_cases hm : m ≤ J
      · by_cases c : ∃ s, s ∈ S ∧ ∃ x, pc_B S m x ∧ ∀ y k, pc_B S m y → K k → ¬ pc_cg (pc_mul s x) (pc_mul y k)
        · obtain ⟨s, hs, x, hx, h⟩ := c
          exact ⟨pc_mul s x, fun _ => ⟨Or.inr ⟨s, hs, x, hx, rfl⟩, h⟩⟩
        · refine absurd ⟨m, hm, fun s hs x hx => ?_⟩ hcl
          by_cases c2 : ∃ y k, pc_B S m y ∧ K k ∧ pc_cg (pc_mul s x) (pc_mul y k)
          · exact c2
          · exact absurd ⟨s, hs, x, hx, fun y k hy hk hc => c2 ⟨y, k, hy, hk, hc⟩⟩ c
      · exact ⟨pc_1, fun h => absurd h hm⟩
    obtain ⟨v, hv⟩ := Classical.axiomOfChoice no
    have hu : ∀ n, n ≤ J + 1 → pc_B S n ((fun n => match n with | 0 => pc_1 | n + 1 => v n) n) := by
      intro n hn
      cases n with
      | zero => exact rfl
      | succ n => exact (hv n (by omega)).1
    generalize hue : (fun n => match n with | 0 => pc_1 | n + 1 => v n) = u at hu
    have hus : ∀ n, u (n + 1) = v n := fun n => by rw [← hue]
    have hN0 : 0 < N := by
      rcases Nat.eq_zero_or_pos N with c | c
      · rw [c] at hN
        omega
      · exact c
    have idx : ∀ i, i < 49 → i / N ≤ J + 1 := by
      intro i hi
      have q : i / N < J + 2 := (Nat.div_lt_iff_lt_mul hN0).mpr (by omega)
      omega
    obtain ⟨i, j, hij, hj, hc⟩ := pc_pg H (fun i => pc_mul (u (i / N)) (d (i % N))) (fun i hi => pc_W_mul ⟨_, hu (i / N) (idx i hi)⟩ (kw _ (dk _ (Nat.mod_lt _ hN0))))
    have hc' : pc_cg (pc_mul (u (i / N)) (d (i % N))) (pc_mul (u (j / N)) (d (j % N))) := hc
    have hpq : i / N ≤ j / N := Nat.div_le_div_right (by omega)
    have hi := idx i (by omega)
    have hjj := idx j hj
    have di := Nat.div_add_mod i N
    have dj := Nat.div_add_mod j N
    have kdi := dk (i % N) (Nat.mod_lt _ hN0)
    have kdj := dk (j % N) (Nat.mod_lt _ hN0)
    have dda := dd (i % N) (j % N)
    have mj := Nat.mod_lt j hN0
    generalize i / N = p at *
    generalize j / N = q at *
    generalize i % N = a at *
    generalize j % N = b at *
    rcases Nat.lt_or_ge p q with c | c
    · obtain ⟨q', e⟩ : ∃ q', q = q' + 1 := ⟨q - 1, by omega⟩
      subst e
      rw [hus] at hc'
      obtain ⟨y, hy, ey⟩ := ki _ kdj
      have c2 := pc_cg_mul hc' (pc_cg_refl y)
      rw [pc_assoc (v q'), ey, pc_mul_one, pc_assoc] at c2
      exact (hv q' (by omega)).2 (u p) (pc_mul (d a) y) (pc_B_le (hu p (by omega)) (by omega)) (km _ _ kdi hy) c2.symm
    · have e : p = q := by omega
      subst e
      refine dda ?_ mj (pc_cg_can (pc_W_U (fun s hs => (hS s hs).2) ⟨_, hu p hi⟩) hc')
      omega
end PCL
