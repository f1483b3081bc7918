/-! triples: the class's readers -/
section PTC
abbrev pt_zg (r : Int) (m : pc_M) : pc_M := pt_zf (r + 1) m
variable {T : Int → Int} {k row sg nm k' : Int} {m m' : pc_M}
theorem pt_U_u {σ : pm_H} {q : Nat} {i v n : Int} (h : q ≠ 30) : pt_U (pm_up σ q i v) n = pt_U σ n := pt_U_eq (pu_ne (by omega))
theorem pt_U_n {σ : pm_H} {n n' : Int} (h : pt_U σ n = T) (e : n' = n) : pt_U σ n' = T := by
  rw [e]
  exact h
theorem pt_by_u {σ : pm_H} {q : Nat} {i v n : Int} (hq : q ≠ 30) (h : pt_by σ n) : pt_by (pm_up σ q i v) n := pt_by_eq h (pu_ne (by omega))
theorem pt_by_n {σ : pm_H} {n n' : Int} (h : pt_by σ n) (e : n' = n) : pt_by σ n' := by
  rw [e]
  exact h
theorem pt_tkE {s v : Int} (e : v = s) (h : T s = -1) : -1 = pt_tk T v := by
  have c := pt_c5 T s
  rw [e]
  omega
theorem pt_tkN {s v d : Int} (e : v = s) (hd : d = pt_dg T s - s) (h : 0 < d) (h2 : d ≤ 2) : 48 = pt_tk T v := by
  have c := pt_c5 T s
  have g := @pt_dg_n T s
  rw [e]
  omega
theorem pt_tkB {s v d : Int} (e : v = s) (hd : d = pt_dg T s - s) (h2 : 2 < d) : -2 = pt_tk T v := by
  have c := pt_c5 T s
  have g := @pt_dg_n T s
  rw [e]
  omega
theorem pt_tkC (hl : pt_lim T) {s v d c : Int} (e : v = s) (hs : 0 ≤ s) (hc : T s = c) (hd : d = pt_dg T s - s) (h2 : d ≤ 0) (h : c = 43 ∨ c = 45 ∨ c = 44 ∨ c = 59 ∨ c = 47 ∨ (120 ≤ c ∧ c ≤ 122)) : c = pt_tk T v := by
  have q := pt_c5 T s
  rw [e]
  omega
theorem pt_tkX (hl : pt_lim T) {s v d c : Int} (e : v = s) (hs : 0 ≤ s) (hc : T s = c) (h1 : 0 ≤ c) (hd : d = pt_dg T s - s) (h2 : d ≤ 0) (h : ¬ (c = 43 ∨ c = 45 ∨ c = 44 ∨ c = 59 ∨ c = 47 ∨ (120 ≤ c ∧ c ≤ 122))) : -2 = pt_tk T v := by
  have q := pt_c5 T s
  have g := pt_dg_gt hl hs
  rw [e]
  omega
/-- a term was read -/
def pt_LR (T : Int → Int) (k0 row sg nm : Int) (m0 : pc_M) (k nm' : Int) (m : pc_M) (r f p : Int) : Prop := True → ((r = 1 ∧ pt_A T 2 k0 row sg nm m0 3 k row 1 nm' m) ∨ (r = 0 ∧ 0 < f ∧ pt_X T 2 k0 row sg nm m0 f p))
theorem pt_LR_1 {k0 r f p : Int} {m0 : pc_M} {nm' : Int} (hr : r = 1) (h : pt_A T 2 k0 row sg nm m0 3 k row 1 nm' m) : pt_LR T k0 row sg nm m0 k nm' m r f p := fun _ => Or.inl ⟨hr, h⟩
theorem pt_LR_0 {k0 r f p : Int} {m0 : pc_M} {nm' : Int} (hr : r = 0) (hf : 0 < f) (h : pt_X T 2 k0 row sg nm m0 f p) : pt_LR T k0 row sg nm m0 k nm' m r f p := fun _ => Or.inr ⟨hr, hf, h⟩
/-- a sum was read -/
def pt_SC (T : Int → Int) (k0 row : Int) (m0 : pc_M) (k : Int) (m : pc_M) (r f p : Int) : Prop := True → ((r = 1 ∧ pt_A T 1 k0 row 1 0 m0 4 k row 1 0 m) ∨ (r = 0 ∧ 0 < f ∧ pt_X T 1 k0 row 1 0 m0 f p))
theorem pt_SC_1 {k0 r f p : Int} {m0 : pc_M} (hr : r = 1) (h : pt_A T 1 k0 row 1 0 m0 4 k row 1 0 m) : pt_SC T k0 row m0 k m r f p := fun _ => Or.inl ⟨hr, h⟩
theorem pt_SC_0 {k0 r f p : Int} {m0 : pc_M} (hr : r = 0) (hf : 0 < f) (h : pt_X T 1 k0 row 1 0 m0 f p) : pt_SC T k0 row m0 k m r f p := fun _ => Or.inr ⟨hr, hf, h⟩
/-- behind a term that was read or not -/
def pt_H77 (T : Int → Int) (k0 row : Int) (m0 : pc_M) (k nm : Int) (m : pc_M) (r f p : Int) : Prop := True → ((r = 1 ∧ pt_A T 1 k0 row 1 0 m0 3 k row 1 nm m) ∨ (r = 0 ∧ 0 < f ∧ pt_X T 1 k0 row 1 0 m0 f p))
theorem pt_H77_of {k0 kk r f p nm' : Int} {m0 : pc_M} (h : pt_A T 1 k0 row 1 0 m0 2 kk row sg nm m) (l : pt_LR T kk row sg nm m k nm' m' r f p) : pt_H77 T k0 row m0 k nm' m' r f p := fun _ => by
  rcases l trivial with ⟨e, a⟩ | ⟨e, g, x⟩
  · exact Or.inl ⟨e, pt_A_tr h a⟩
  · exact Or.inr ⟨e, g, pt_A_X h x⟩
theorem pt_H77_1 {k0 r f p : Int} {m0 : pc_M} (h : pt_H77 T k0 row m0 k nm m r f p) (hr : r ≠ 0) : pt_A T 1 k0 row 1 0 m0 3 k row 1 nm m := by
  rcases h trivial with ⟨_, a⟩ | ⟨e, _⟩
  · exact a
  · omega
theorem pt_H77_0 {k0 r f p : Int} {m0 : pc_M} (h : pt_H77 T k0 row m0 k nm m r f p) (hr : r = 0) : 0 < f ∧ pt_X T 1 k0 row 1 0 m0 f p := by
  rcases h trivial with ⟨e, _⟩ | ⟨_, g, x⟩
  · omega
  · exact ⟨g, x⟩
/-- the row is 0 now -/
theorem pt_zf_z {f g : Int → Int} {row : Int} (hr : 0 ≤ row ∧ row < 3) (h1 : ∀ k : Int, 0 ≤ k → k < 3 * row → f k = g k) (h2 : ∀ k : Int, 3 * row ≤ k → k < 3 * row + 3 → f k = 0) : pt_zf (row + 1) (pt_m f 0) = pt_zf row (pt_m g 0) := by
  have c1 : row = 0 ∨ row = 1 ∨ row = 2 := by omega
  rcases c1 with c1 | c1 | c1 <;> subst c1
  · have a := h2 0 (by omega) (by omega)
    have b := h2 1 (by omega) (by omega)
    have c := h2 2 (by omega) (by omega)
    show (f (0 + 0), f (0 + 1), f (0 + 2), (0 : Int), (0 : Int), (0 : Int), (0 : Int), (0 : Int), (0 : Int)) = (0, 0, 0, 0, 0, 0, 0, 0, 0)
    simp only [Int.zero_add, a, b, c]
  · have a := h2 3 (by omega) (by omega)
    have b := h2 4 (by omega) (by omega)
    have c := h2 5 (by omega) (by omega)
    have a' := h1 0 (by omega) (by omega)
    have b' := h1 1 (by omega) (by omega)
    have c' := h1 2 (by omega) (by omega)
    show (f (0 + 0), f (0 + 1), f (0 + 2), f (0 + 3), f (0 + 4), f (0 + 5), (0 : Int), (0 : Int), (0 : Int)) = (g (0 + 0), g (0 + 1), g (0 + 2), 0, 0, 0, 0, 0, 0)
    simp only [Int.zero_add, a, b, c, a', b', c']
  · have a := h2 6 (by omega) (by omega)
    have b := h2 7 (by omega) (by omega)
    have c := h2 8 (by omega) (by omega)
    have z0 := h1 0 (by omega) (by omega)
    have z1 := h1 1 (by omega) (by omega)
    have z2 := h1 2 (by omega) (by omega)
    have z3 := h1 3 (by omega) (by omega)
    have z4 := h1 4 (by omega) (by omega)
    have z5 := h1 5 (by omega) (by omega)
    show (f (0 + 0), f (0 + 1), f (0 + 2), f (0 + 3), f (0 + 4), f (0 + 5), f (0 + 6), f (0 + 7), f (0 + 8)) = (g (0 + 0), g (0 + 1), g (0 + 2), g (0 + 3), g (0 + 4), g (0 + 5), 0, 0, 0)
    simp only [Int.zero_add, a, b, c, z0, z1, z2, z3, z4, z5]
/-- the rules once more, with conditions at the place behind the blanks -/
theorem pt_2t_c {s f : Int} (hs : s = pt_sk T k) (hf : f = 2) (h : pt_tk T (pt_sk T k) = 48) (h' : nm ≠ 0) : pt_X T 2 k row sg nm m f s := by
  subst hs hf
  exact pt_2t h h'
theorem pt_2x_c {s f : Int} (hs : s = pt_sk T k) (hf : f = 1) (h : pt_tk T (pt_sk T k) ≠ 48) (h' : ¬ (120 ≤ pt_tk T (pt_sk T k) ∧ pt_tk T (pt_sk T k) ≤ 122)) : pt_X T 2 k row sg nm m f s := by
  subst hs hf
  exact pt_2x h h'
theorem pt_2wz_c {s f i : Int} {σ : pm_H} {q : Nat} (hs : s = pt_sk T k) (hf : f = 2) (hr : 0 ≤ row ∧ row < 3) (h : 120 ≤ pt_tk T (pt_sk T k) ∧ pt_tk T (pt_sk T k) ≤ 122) (hi : i = row * 3 + pt_tk T (pt_sk T k) - 120) (h0 : σ q i ≠ 0) : pt_X T 2 k row sg nm (pt_zf (row + 1) (pt_m (σ q) 0)) f s := by
  subst hs
  exact pt_2wz rfl hf hr h hi h0
theorem pt_6s_c {nm' : Int} (h : T (pt_sk T k) = 47) (hk : k' = pt_sk T k + 1) (hn : nm' = 1) : pt_A T 6 k row sg nm m 7 k' row sg nm' m := by
  subst hk hn
  exact pt_6s h
theorem pt_6n_c {nm' : Int} (hs : k' = pt_sk T k) (h : T (pt_sk T k) ≠ 47) (hn : nm' = 1) : pt_A T 6 k row sg nm m 3 k' row 1 nm' m := by
  subst hs hn
  exact pt_6n h
theorem pt_7x_c {s f : Int} (hs : s = pt_sk T k) (hf : f = 1) (h : pt_tk T (pt_sk T k) ≠ 48) : pt_X T 7 k row sg nm m f s := by
  subst hs hf
  exact pt_7x h
theorem pt_3n_c (hs : k' = pt_sk T k) (h : T (pt_sk T k) ≠ 43) (h' : T (pt_sk T k) ≠ 45) : pt_A T 3 k row sg nm m 4 k' row 1 0 m := by
  subst hs
  exact pt_3n h h'
/-- readSign, ahead of a sum and between terms -/
theorem pt_rs1 {r nm' : Int} (h : (T (pt_sk T k) = 43 ∧ k' = pt_sk T k + 1 ∧ r = 1) ∨ (T (pt_sk T k) = 45 ∧ k' = pt_sk T k + 1 ∧ r = -1) ∨ (¬ (T (pt_sk T k) = 43) ∧ ¬ (T (pt_sk T k) = 45) ∧ k' = pt_sk T k ∧ r = 1)) (hn : nm' = 0) (hm : m' = m) : pt_A T 1 k row sg nm m 2 k' row r nm' m' := by
  subst hn hm
  rcases h with ⟨a, b, c⟩ | ⟨a, b, c⟩ | ⟨a, b, c, d⟩
  · subst b c
    exact pt_1p a
  · subst b c
    exact pt_1m a
  · subst c d
    exact pt_1n a b
theorem pt_rs3 {r : Int} (h : (T (pt_sk T k) = 43 ∧ k' = pt_sk T k + 1 ∧ r = 1) ∨ (T (pt_sk T k) = 45 ∧ k' = pt_sk T k + 1 ∧ r = -1) ∨ (¬ (T (pt_sk T k) = 43) ∧ ¬ (T (pt_sk T k) = 45) ∧ k' = pt_sk T k ∧ r = 1)) (hs : pt_sk T k = k) (ht : T k = 43 ∨ T k = 45) : pt_A T 3 k row sg nm m 2 k' row r nm m := by
  rw [hs] at h
  rcases h with ⟨a, b, c⟩ | ⟨a, b, c⟩ | ⟨a, b, c, d⟩
  · subst b c
    exact pt_3p_ hs.symm a rfl rfl
  · subst b c
    exact pt_3m_ hs.symm a rfl rfl
  · omega
/-- readSign -/
def pt_RS (T : Int → Int) (k k' r : Int) : Prop := True → ((T (pt_sk T k) = 43 ∧ k' = pt_sk T k + 1 ∧ r = 1) ∨ (T (pt_sk T k) = 45 ∧ k' = pt_sk T k + 1 ∧ r = -1) ∨ (¬ (T (pt_sk T k) = 43) ∧ ¬ (T (pt_sk T k) = 45) ∧ k' = pt_sk T k ∧ r = 1))
theorem pt_RS_of {t r : Int} (ht : t = pt_tk T (pt_sk T k)) (h : (t = 43 ∧ k' = pt_sk T k + 1 ∧ r = 1) ∨ (t = 45 ∧ k' = pt_sk T k + 1 ∧ r = -1) ∨ (¬ (t = 43) ∧ ¬ (t = 45) ∧ k' = pt_sk T k ∧ r = 1)) : pt_RS T k k' r := fun _ => by
  have c := pt_c5 T (pt_sk T k)
  omega
theorem pt_tk48 {s : Int} (h : pt_tk T s = 48) : 48 ≤ T s ∧ T s ≤ 57 ∧ pt_dg T s - s ≤ 2 := by
  have c := pt_c5 T s
  omega
theorem pt_dg_d2 (hl : pt_lim T) {s : Int} (hs : 0 ≤ s) (h : 48 ≤ T s ∧ T s ≤ 57) : s + 1 < pt_dg T s → 48 ≤ T (s + 1) ∧ T (s + 1) ≤ 57 := fun c => by
  have a := pt_dg_y hl hs h
  have b := @pt_dg_n T (s + 1)
  omega
theorem pt_6s_k {nm' : Int} (h : pt_tk T (pt_sk T k) = 47) (hk : k' = pt_sk T k + 1) (hn : nm' = 1) : pt_A T 6 k row sg nm m 7 k' row sg nm' m := pt_6s_c (by have c := pt_c5 T (pt_sk T k); omega) hk hn
theorem pt_6n_k {nm' : Int} (hs : k' = pt_sk T k) (h : ¬ (pt_tk T (pt_sk T k) = 47)) (hn : nm' = 1) : pt_A T 6 k row sg nm m 3 k' row 1 nm' m := pt_6n_c hs (by have c := pt_c5 T (pt_sk T k); omega) hn
theorem pt_3n_k (hs : k' = pt_sk T k) (h : ¬ (pt_tk T (pt_sk T k) = 43)) (h' : ¬ (pt_tk T (pt_sk T k) = 45)) : pt_A T 3 k row sg nm m 4 k' row 1 0 m := pt_3n_c hs (by have c := pt_c5 T (pt_sk T k); omega) (by have c := pt_c5 T (pt_sk T k); omega)
theorem pt_rs1_ {r nm' : Int} (h : pt_RS T k k' r) (hn : nm' = 0) (hm : m' = m) : pt_A T 1 k row sg nm m 2 k' row r nm' m' := pt_rs1 (h trivial) hn hm
theorem pt_rs3_ {r : Int} (h : pt_RS T k k' r) (hs : pt_sk T k = k) (ht : pt_tk T k = 43 ∨ pt_tk T k = 45) : pt_A T 3 k row sg nm m 2 k' row r nm m := pt_rs3 (h trivial) hs (by have c := pt_c5 T k; omega)
theorem pt_2lz2 {s i nm' : Int} {σ τ : pm_H} {q : Nat} (e35 : τ q = σ q) (h0 : σ q i = 0) (hs : s = pt_sk T k) (hr : 0 ≤ row ∧ row < 3) (h : 120 ≤ pt_tk T s ∧ pt_tk T s ≤ 122) (hi : i = row * 3 + pt_tk T s - 120) (hk : k' = s + 1) (hn : nm' = nm) : pt_A T 2 k row sg nm (pt_zf (row + 1) (pt_m (σ q) 0)) 3 k' row 1 nm' (pt_zf (row + 1) (pt_m (pm_up τ q i sg q) 0)) := by
  have e : pm_up τ q i sg q = pm_up σ q i sg q := by
    funext j
    unfold pm_up
    rw [e35]
  rw [e, hn]
  exact pt_2lz hs hr h hi h0 hk
theorem pt_2wz_d {p f i : Int} {σ : pm_H} {q : Nat} (h0 : ¬ (σ q i = 0)) (hp : p = pt_sk T k) (hf : f = 2) (hr : 0 ≤ row ∧ row < 3) (h : 120 ≤ pt_tk T (pt_sk T k) ∧ pt_tk T (pt_sk T k) ≤ 122) (hi : i = row * 3 + pt_tk T (pt_sk T k) - 120) : pt_X T 2 k row sg nm (pt_zf (row + 1) (pt_m (σ q) 0)) f p := pt_2wz_c hp hf hr h hi h0
theorem pt_2t_d {p f : Int} (hk : pt_sk T k = k) (h : pt_tk T k = 48) (hp : p = k) (hf : f = 2) (h' : ¬ (nm = 0)) : pt_X T 2 k row sg nm m f p := by
  rw [hp]
  exact pt_2t_ hk.symm hf h h'
theorem pt_7p_d {p f r : Int} (hk : pt_sk T k = k) (h : pt_tk T k = 48) (hr : r = pt_vl T k) (h4 : r < 1 ∨ ¬ (24 % r = 0)) (hp : p = k) (hf : f = 3) : pt_X T 7 k row sg nm m f p := by
  rw [hp]
  refine pt_7p_ hk.symm hf h ?_
  rw [← hr]
  exact h4
theorem pt_7q_d {r nm' : Int} (hk : pt_sk T k = k) (h : pt_tk T k = 48) (hr : r = pt_vl T k) (h1 : ¬ (r < 1)) (h2 : 24 % r = 0) (hk' : k' = pt_dg T k) (hn : nm' = 1) : pt_A T 7 k row sg nm m 3 k' row 1 nm' m := by
  refine pt_7q_ hk.symm hk' hn h ?_
  rw [← hr]
  exact ⟨by omega, h2⟩
end PTC
