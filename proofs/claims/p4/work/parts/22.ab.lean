/-! matrices that are exchanged with one another -/
section PCA
theorem pc_can {x y z : pc_M} (hx : pc_U x) (h : pc_mul x y = pc_mul x z) : y = z := by
  obtain ⟨i, _, hi⟩ := pc_inv hx
  have k : pc_mul i (pc_mul x y) = pc_mul i (pc_mul x z) := by rw [h]
  rw [← pc_assoc, ← pc_assoc, hi, pc_one_mul, pc_one_mul] at k
  exact k
theorem pc_least (Q : Nat → Prop) : ∀ n m, m ≤ n → Q m → ∃ k, k ≤ m ∧ Q k ∧ ∀ j, j < k → ¬ Q j
  | 0, m, hm, h => ⟨m, Nat.le_refl _, h, fun j hj => absurd hj (by omega)⟩
  | n + 1, m, hm, h => by
    by_cases c : ∃ j, j < m ∧ Q j
    · obtain ⟨j, hj, q⟩ := c
      obtain ⟨k, hk, qk, r⟩ := pc_least Q n j (by omega) q
      exact ⟨k, by omega, qk, r⟩
    · exact ⟨m, Nat.le_refl _, h, fun j hj q => c ⟨j, hj, q⟩⟩
theorem pc_W_cm {S : List pc_M} {c : pc_M} (h : ∀ s, s ∈ S → pc_mul s c = pc_mul c s) {x : pc_M} (hx : pc_W S x) : pc_mul x c = pc_mul c x := by
  refine pc_W_ind (Q := fun x => pc_mul x c = pc_mul c x) ?_ ?_ hx
  · rw [pc_one_mul, pc_mul_one]
  · intro s hs y _ hy
    rw [pc_assoc, hy, ← pc_assoc, h s hs, pc_assoc]
def pc_St (S : List pc_M) (K : pc_M → Prop) (N C : Nat) : Prop :=
  K pc_1 ∧ (∀ x y, K x → K y → K (pc_mul x y)) ∧ (∀ x, K x → pc_W S x) ∧ (∀ x, K x → pc_pow x 12 = pc_1) ∧ (∀ x, K x → pc_cl C x) ∧ (∃ d : Nat → pc_M, (∀ i, i < N → K (d i)) ∧ ∀ i j, i < j → j < N → d i ≠ d j) ∧ C ^ 5 ≤ N ^ 8 ∧ 1 ≤ N
theorem pc_St48 {S : List pc_M} (H : pc_H S) {K : pc_M → Prop} {N C : Nat} (h : pc_St S K N C) (hn : N ≤ 576) : N ≤ 48 := by
  obtain ⟨_, _, kw, _, kc, ⟨d, dk, dd⟩, hp, _⟩ := h
  by_cases c : N ≤ 48
  · exact c
  · exfalso
    have hC : C ≤ 1000000 := by
      by_cases c2 : C ≤ 1000000
      · exact c2
      · exfalso
        have q1 : 1000001 ^ 5 ≤ C ^ 5 := Nat.pow_le_pow_left (by omega) 5
        have q2 : N ^ 8 ≤ 576 ^ 8 := Nat.pow_le_pow_left hn 8
        have q3 : 576 ^ 8 < 1000001 ^ 5 := by decide
        exact absurd (Nat.le_trans q1 (Nat.le_trans hp q2)) (Nat.not_le.mpr q3)
    obtain ⟨i, j, hij, hj, hc⟩ := pc_pg H d (fun i hi => kw _ (dk i (by omega)))
    have l1 := pc_le_mono (pc_cl_le (kc _ (dk i (by omega)))) (m := 1000000000) (by omega)
    have l2 := pc_le_mono (pc_cl_le (kc _ (dk j (by omega)))) (m := 1000000000) (by omega)
    exact dd i j hij (by omega) (pc_cg_eq hc l1 l2)
theorem pc_le1_cl {x : pc_M} (h : pc_le 1 x) : pc_cl 3 x := by
  unfold pc_le at h
  unfold pc_cl
  omega
theorem pc_Ststep {S : List pc_M} (hS : ∀ s, s ∈ S → pc_le 1 s ∧ pc_U s) (hc : ∀ s, s ∈ S → ∀ r, r ∈ S → pc_mul s r = pc_mul r s) (hp : ∀ s, s ∈ S → pc_pow s 12 = pc_1 ∧ pc_cl 5 (pc_pow s 2) ∧ ∀ e, pc_cl 7 (pc_pow s e)) {K : pc_M → Prop} {N C : Nat} (h : pc_St S K N C) (hn : N ≤ 48) {c : pc_M} (cs : c ∈ S) (ck : ¬ K c) : ∃ K' N' C', pc_St S K' N' C' ∧ N < N' ∧ N' ≤ 576 := by
  obtain ⟨k1, km, kw, kp, kc, ⟨d, dk, dd⟩, hN, n1⟩ := h
  obtain ⟨c12, c2, c7⟩ := hp c cs
  obtain ⟨q, hq, ⟨q1, qk⟩, qm⟩ := pc_least (fun e => 1 ≤ e ∧ K (pc_pow c e)) 12 12 (Nat.le_refl _) ⟨by omega, by rw [c12]; exact k1⟩
  have q2 : 2 ≤ q := by
    by_cases e : q = 1
    · rw [e, pc_pow_one] at qk
      exact absurd qk ck
    · omega
  have qm' : ∀ e, 1 ≤ e → e < q → ¬ K (pc_pow c e) := fun e h1 h2 hk => qm e h2 ⟨h1, hk⟩
  have cu : pc_U c := (hS c cs).2
  have cm : ∀ x, K x → pc_mul x c = pc_mul c x := fun x hx => pc_W_cm (fun s hs => hc s hs c cs) (kw x hx)
  have cme : ∀ e x, K x → pc_mul x (pc_pow c e) = pc_mul (pc_pow c e) x := fun e x hx => pc_pow_cm (cm x hx) e
  obtain ⟨C1, hC1, hC1p⟩ : ∃ C1 : Nat, (∀ e, e < q → pc_cl C1 (pc_pow c e)) ∧ C1 ^ 5 ≤ q ^ 8 := by
    have cl1 : pc_cl 3 (pc_pow c 1) := by
      rw [pc_pow_one]
      exact pc_le1_cl (hS c cs).1
    have cl0 : pc_cl 3 (pc_pow c 0) := pc_cl_mono pc_cl_1 (by omega)
    by_cases e2 : q = 2
    · refine ⟨3, fun e he => ?_, ?_⟩
      · have ee : e = 0 ∨ e = 1 := by omega
        rcases ee with ee | ee <;> rw [ee]
        · exact cl0
        · exact cl1
      · rw [e2]
        decide
    · by_cases e3 : q = 3
      · refine ⟨5, fun e he => ?_, ?_⟩
        · have ee : e = 0 ∨ e = 1 ∨ e = 2 := by omega
          rcases ee with ee | ee | ee <;> rw [ee]
          · exact pc_cl_mono cl0 (by omega)
          · exact pc_cl_mono cl1 (by omega)
          · exact c2
        · rw [e3]
          decide
      · refine ⟨7, fun e _ => c7 e, ?_⟩
        have z1 : 4 ^ 8 ≤ q ^ 8 := Nat.pow_le_pow_left (by omega) 8
        have z2 : 7 ^ 5 ≤ 4 ^ 8 := by decide
        exact Nat.le_trans z2 z1
  refine ⟨fun x => ∃ e k, e < q ∧ K k ∧ x = pc_mul (pc_pow c e) k, q * N, C1 * C, ⟨?_, ?_, ?_, ?_, ?_, ?_, ?_, ?_⟩, ?_, ?_⟩
  · exact ⟨0, pc_1, by omega, k1, (pc_mul_one pc_1).symm⟩
  · intro x y hx hy
    obtain ⟨e, k, he, hk, ex⟩ := hx
    obtain ⟨f, l, hf, hl, ey⟩ := hy
    have z : pc_mul x y = pc_mul (pc_pow c (e + f)) (pc_mul k l) := by
      rw [ex, ey, pc_assoc, ← pc_assoc k, cme f k hk, pc_assoc, ← pc_assoc (pc_pow c e), ← pc_pow_add]
    by_cases g : e + f < q
    · exact ⟨e + f, pc_mul k l, g, km k l hk hl, z⟩
    · refine ⟨e + f - q, pc_mul (pc_pow c q) (pc_mul k l), by omega, km _ _ qk (km k l hk hl), ?_⟩
      have z2 : e + f = (e + f - q) + q := by omega
      rw [z, ← pc_assoc (pc_pow c (e + f - q)), ← pc_pow_add, ← z2]
  · intro x hx
    obtain ⟨e, k, he, hk, ex⟩ := hx
    rw [ex]
    exact pc_W_mul (pc_W_pow (pc_W_mem cs) e) (kw k hk)
  · intro x hx
    obtain ⟨e, k, he, hk, ex⟩ := hx
    rw [ex, pc_pow_mulc (cme e k hk).symm, kp k hk, pc_mul_one, ← pc_pow_mul, Nat.mul_comm, pc_pow_mul, c12, pc_pow_1]
  · intro x hx
    obtain ⟨e, k, he, hk, ex⟩ := hx
    rw [ex]
    exact pc_cl_mul (hC1 e he) (kc k hk)
  · refine ⟨fun i => pc_mul (pc_pow c (i / N)) (d (i % N)), fun i hi => ?_, fun i j hij hj => ?_⟩
    · exact ⟨i / N, d (i % N), (Nat.div_lt_iff_lt_mul (by omega)).mpr hi, dk _ (Nat.mod_lt _ (by omega)), rfl⟩
    · intro eq
      have eq' : pc_mul (pc_pow c (i / N)) (d (i % N)) = pc_mul (pc_pow c (j / N)) (d (j % N)) := eq
      have hpq : i / N ≤ j / N := Nat.div_le_div_right (by omega)
      have hjq : j / N < q := (Nat.div_lt_iff_lt_mul (by omega)).mpr hj
      have di := Nat.div_add_mod i N
      have dj := Nat.div_add_mod j N
      have mi := Nat.mod_lt i (y := N) (by omega)
      have mj := Nat.mod_lt j (y := N) (by omega)
      have kdi := dk (i % N) mi
      have kdj := dk (j % N) mj
      have dda := dd (i % N) (j % N)
      generalize i / N = p at *
      generalize j / N = r at *
      generalize i % N = a at *
      generalize j % N = b at *
      rcases Nat.lt_or_ge p r with g | g
      · have e2 : r = p + (r - p) := by omega
        rw [e2, pc_pow_add, pc_assoc] at eq'
        have e3 := pc_can (pc_U_pow cu p) eq'
        have e4 : pc_mul (d a) (pc_pow (d b) 11) = pc_pow c (r - p) := by
          rw [e3, pc_assoc]
          have e5 : pc_mul (d b) (pc_pow (d b) 11) = pc_1 := kp _ kdj
          rw [e5, pc_mul_one]
        have kpow : ∀ n, K (pc_pow (d b) n) := by
          intro n
          induction n with
          | zero => exact k1
          | succ n ih => exact km _ _ kdj ih
        have kk := km _ _ kdi (kpow 11)
        rw [e4] at kk
        exact qm' (r - p) (by omega) (by omega) kk
      · have e : p = r := by omega
        subst e
        exact dda (by omega) mj (pc_can (pc_U_pow cu p) eq')
  · rw [Nat.mul_pow, Nat.mul_pow]
    exact Nat.mul_le_mul hC1p hN
  · have z := Nat.mul_le_mul q1 n1
    omega
  · have z := Nat.mul_le_mul_right N q2
    omega
  · have z := Nat.mul_le_mul hq hn
    omega
theorem pc_AB0 {S : List pc_M} (hS : ∀ s, s ∈ S → pc_le 1 s ∧ pc_U s) (H : pc_H S) (hc : ∀ s, s ∈ S → ∀ r, r ∈ S → pc_mul s r = pc_mul r s) (hp : ∀ s, s ∈ S → pc_pow s 12 = pc_1 ∧ pc_cl 5 (pc_pow s 2) ∧ ∀ e, pc_cl 7 (pc_pow s e)) : ∀ n K N C, pc_St S K N C → N ≤ 48 → 48 ≤ N + n → ∀ x, pc_W S x → pc_le 999 x := by
  intro n
  induction n with
  | zero =>
    intro K N C h hn hh
    by_cases c : ∃ c, c ∈ S ∧ ¬ K c
    · obtain ⟨c, cs, ck⟩ := c
      obtain ⟨K', N', C', h', l, u⟩ := pc_Ststep hS hc hp h hn cs ck
      have q := pc_St48 H h' u
      omega
    · have all : ∀ s, s ∈ S → K s := fun s hs => Classical.byContradiction fun k => c ⟨s, hs, k⟩
      obtain ⟨k1, km, _, _, kc, _, hN, _⟩ := h
      intro x hx
      have kx : K x := pc_W_ind (Q := K) k1 (fun s hs y _ hy => km s y (all s hs) hy) hx
      have hC : C ≤ 999 := by
        by_cases c2 : C ≤ 999
        · exact c2
        · exfalso
          have q1 : 1000 ^ 5 ≤ C ^ 5 := Nat.pow_le_pow_left (by omega) 5
          have q2 : N ^ 8 ≤ 48 ^ 8 := Nat.pow_le_pow_left hn 8
          have q3 : 48 ^ 8 < 1000 ^ 5 := by decide
          exact absurd (Nat.le_trans q1 (Nat.le_trans hN q2)) (Nat.not_le.mpr q3)
      exact pc_le_mono (pc_cl_le (kc x kx)) (by omega)
  | succ n ih =>
    intro K N C h hn hh
    by_cases c : ∃ c, c ∈ S ∧ ¬ K c
    · obtain ⟨c, cs, ck⟩ := c
      obtain ⟨K', N', C', h', l, u⟩ := pc_Ststep hS hc hp h hn cs ck
      have q := pc_St48 H h' u
      exact ih K' N' C' h' q (by omega)
    · have all : ∀ s, s ∈ S → K s := fun s hs => Classical.byContradiction fun k => c ⟨s, hs, k⟩
      obtain ⟨k1, km, _, _, kc, _, hN, _⟩ := h
      intro x hx
      have kx : K x := pc_W_ind (Q := K) k1 (fun s hs y _ hy => km s y (all s hs) hy) hx
      have hC : C ≤ 999 := by
        by_cases c2 : C ≤ 999
        · exact c2
        · exfalso
          have q1 : 1000 ^ 5 ≤ C ^ 5 := Nat.pow_le_pow_left (by omega) 5
          have q2 : N ^ 8 ≤ 48 ^ 8 := Nat.pow_le_pow_left hn 8
          have q3 : 48 ^ 8 < 1000 ^ 5 := by decide
          exact absurd (Nat.le_trans q1 (Nat.le_trans hN q2)) (Nat.not_le.mpr q3)
      exact pc_le_mono (pc_cl_le (kc x kx)) (by omega)
theorem pc_AB {S : List pc_M} (hS : ∀ s, s ∈ S → pc_le 1 s ∧ pc_U s) (H : pc_H S) (hc : ∀ s, s ∈ S → ∀ r, r ∈ S → pc_mul s r = pc_mul r s) (hp : ∀ s, s ∈ S → pc_pow s 12 = pc_1 ∧ pc_cl 5 (pc_pow s 2) ∧ ∀ e, pc_cl 7 (pc_pow s e)) : ∀ x, pc_W S x → pc_le 999 x := by
  refine pc_AB0 hS H hc hp 48 (fun x => x = pc_1) 1 1 ⟨rfl, ?_, ?_, ?_, ?_, ⟨fun _ => pc_1, fun _ _ => rfl, fun i j hij hj => ?_⟩, by decide, by decide⟩ (by decide) (by decide)
  · intro x y hx hy
    rw [hx, hy, pc_one_mul]
  · intro x hx
    rw [hx]
    exact pc_W_1 S
  · intro x hx
    rw [hx, pc_pow_1]
  · intro x hx
    rw [hx]
    exact pc_cl_1
  · omega
end PCA
