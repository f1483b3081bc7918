/-! the class: its places, what its groups and its draft keep to -/
section CLS
theorem pm_isG_n {p : Nat} (h : pm_isG p) : p % 6 = 5 ∧ 41 ≤ p ∧ p ≤ 71 := by
  unfold pm_isG at h
  omega
theorem prG1 {p : Nat} (h : pm_isG p) (i : Int) : pm_ia (p + 1) i = (0 ≤ i ∧ i < 432) := pm_gG h (fun p => pm_ia (p + 1) i = (0 ≤ i ∧ i < 432)) (pr_42 i) (pr_48 i) (pr_54 i) (pr_60 i) (pr_66 i) (pr_72 i)
theorem pwG1 {p : Nat} (h : pm_isG p) (i : Int) : pm_iw (p + 1) i = (0 ≤ i ∧ i < 432) := pm_gG h (fun p => pm_iw (p + 1) i = (0 ≤ i ∧ i < 432)) (pw_42 i) (pw_48 i) (pw_54 i) (pw_60 i) (pw_66 i) (pw_72 i)
theorem prG2 {p : Nat} (h : pm_isG p) (i : Int) : pm_ia (p + 2) i = (0 ≤ i ∧ i < 48) := pm_gG h (fun p => pm_ia (p + 2) i = (0 ≤ i ∧ i < 48)) (pr_43 i) (pr_49 i) (pr_55 i) (pr_61 i) (pr_67 i) (pr_73 i)
theorem pwG2 {p : Nat} (h : pm_isG p) (i : Int) : pm_iw (p + 2) i = (0 ≤ i ∧ i < 48) := pm_gG h (fun p => pm_iw (p + 2) i = (0 ≤ i ∧ i < 48)) (pw_43 i) (pw_49 i) (pw_55 i) (pw_61 i) (pw_67 i) (pw_73 i)
theorem prG3 {p : Nat} (h : pm_isG p) (i : Int) : pm_ia (p + 3) i = (0 ≤ i ∧ i < 192) := pm_gG h (fun p => pm_ia (p + 3) i = (0 ≤ i ∧ i < 192)) (pr_44 i) (pr_50 i) (pr_56 i) (pr_62 i) (pr_68 i) (pr_74 i)
theorem pwG3 {p : Nat} (h : pm_isG p) (i : Int) : pm_iw (p + 3) i = (0 ≤ i ∧ i < 192) := pm_gG h (fun p => pm_iw (p + 3) i = (0 ≤ i ∧ i < 192)) (pw_44 i) (pw_50 i) (pw_56 i) (pw_62 i) (pw_68 i) (pw_74 i)
theorem prG4 {p : Nat} (h : pm_isG p) (i : Int) : pm_ia (p + 4) i = (0 ≤ i ∧ i < 2304) := pm_gG h (fun p => pm_ia (p + 4) i = (0 ≤ i ∧ i < 2304)) (pr_45 i) (pr_51 i) (pr_57 i) (pr_63 i) (pr_69 i) (pr_75 i)
theorem pwG4 {p : Nat} (h : pm_isG p) (i : Int) : pm_iw (p + 4) i = (0 ≤ i ∧ i < 2304) := pm_gG h (fun p => pm_iw (p + 4) i = (0 ≤ i ∧ i < 2304)) (pw_45 i) (pw_51 i) (pw_57 i) (pw_63 i) (pw_69 i) (pw_75 i)
theorem prG5 {p : Nat} (h : pm_isG p) (i : Int) : pm_ia (p + 5) i = (0 ≤ i ∧ i < 9) := pm_gG h (fun p => pm_ia (p + 5) i = (0 ≤ i ∧ i < 9)) (pr_46 i) (pr_52 i) (pr_58 i) (pr_64 i) (pr_70 i) (pr_76 i)
theorem pwG5 {p : Nat} (h : pm_isG p) (i : Int) : pm_iw (p + 5) i = (0 ≤ i ∧ i < 9) := pm_gG h (fun p => pm_iw (p + 5) i = (0 ≤ i ∧ i < 9)) (pw_46 i) (pw_52 i) (pw_58 i) (pw_64 i) (pw_70 i) (pw_76 i)
theorem pal_30 : pm_al 30 400 := by
  unfold pm_al
  rw [pz_30]
  rfl
theorem pal_10 : pm_al 10 576 := by
  unfold pm_al
  rw [pz_10]
  rfl
theorem pal_115 : pm_al 115 32 := by
  unfold pm_al
  rw [pz_115]
  rfl
theorem pal_116 : pm_al 116 7 := by
  unfold pm_al
  rw [pz_116]
  rfl
/-- places from a on, n of them, that may be read -/
def pv_in (q : Nat) (a n : Int) : Prop := True → ∀ k : Int, a ≤ k → k < a + n → pm_ia q k
theorem pv_in_at {q : Nat} {a n k : Int} (h : pv_in q a n) (h1 : a ≤ k) (h2 : k < a + n) : pm_ia q k := h trivial k h1 h2
theorem pv_in_sub {q : Nat} {a n b m : Int} (h : pv_in q a n) (h1 : a ≤ b) (h2 : b + m ≤ a + n) : pv_in q b m := fun _ k k1 k2 => h trivial k (by omega) (by omega)
def pv_ow (q : Nat) (a n : Int) : Prop := True → ∀ k : Int, a ≤ k → k < a + n → pm_iw q k
theorem pv_ow_at {q : Nat} {a n k : Int} (h : pv_ow q a n) (h1 : a ≤ k) (h2 : k < a + n) : pm_iw q k := h trivial k h1 h2
theorem pv_ow_in {q : Nat} {a n : Int} (h : pv_ow q a n) : pv_in q a n := fun _ k k1 k2 => by
  have z := h trivial k k1 k2
  unfold pm_iw at z
  unfold pm_ia
  split at z
  · rename_i e
    rw [e]
    exact z
  · exact z.elim
theorem pv_cw_of {a d : Nat} {i j n : Int} (hn : 1 ≤ n) (h1 : pv_in a i n) (h2 : pv_ow d j n) : pm_cw a i d j n := by
  have a1 := h1 trivial i (by omega) (by omega)
  have a2 := h1 trivial (i + n - 1) (by omega) (by omega)
  have b1 := h2 trivial j (by omega) (by omega)
  have b2 := h2 trivial (j + n - 1) (by omega) (by omega)
  unfold pm_ia at a1 a2
  unfold pm_iw at b1 b2
  unfold pm_cw
  split at a1
  · rename_i ea
    rw [ea] at a2 ⊢
    split at b1
    · rename_i eb
      rw [eb] at b2 ⊢
      obtain ⟨c1, c2, c3⟩ := a1
      obtain ⟨d1, d2, d3⟩ := b1
      subst c1 d1
      dsimp only at a2 b2 ⊢
      exact ⟨⟨c2, d2, by omega⟩, by omega, by omega⟩
    · exact b1.elim
  · exact a1.elim
theorem pv_mkk {m k M P : Int} (h1 : 0 ≤ m) (h2 : m < M) (h3 : 0 ≤ k) (h4 : k < P) : 0 ≤ m * P ∧ 0 ≤ m * P + k ∧ m * P + k < M * P ∧ m * P ≤ M * P := by
  have a := Int.mul_nonneg h1 (show 0 ≤ P by omega)
  have b : (m + 1) * P ≤ M * P := Int.mul_le_mul_of_nonneg_right (by omega) (by omega)
  rw [Int.add_mul, Int.one_mul] at b
  omega
theorem pv_dv {i M P : Int} (h0 : 0 < P) (h1 : 0 ≤ i) (h2 : i < M * P) : 0 ≤ i / P ∧ i / P < M := ⟨Int.ediv_nonneg h1 (by omega), Int.ediv_lt_of_lt_mul h0 h2⟩
theorem pv_pp {a b c d : Int} (h1 : a = b) (h2 : c = d) : a * c = b * d := by rw [h1, h2]
/-- a group that is there -/
def pv_GL (σ : pm_H) (p : Nat) : Prop := True → (1 ≤ σ p 5 ∧ σ p 5 ≤ 48) ∧ (1 ≤ σ p 6 ∧ σ p 6 ≤ 192) ∧ (1 ≤ σ p 5 * σ p 6 ∧ σ p 5 * σ p 6 ≤ 192) ∧ (-1 ≤ σ p 7 ∧ σ p 7 < σ p 5) ∧ pm_rg σ (p + 4) 0 2304 (-1) 47
theorem pv_GL_n {σ : pm_H} {p : Nat} (h : pv_GL σ p) : (1 ≤ σ p 5 ∧ σ p 5 ≤ 48) ∧ (1 ≤ σ p 6 ∧ σ p 6 ≤ 192) ∧ (1 ≤ σ p 5 * σ p 6 ∧ σ p 5 * σ p 6 ≤ 192) ∧ (-1 ≤ σ p 7 ∧ σ p 7 < σ p 5) := ⟨(h trivial).1, (h trivial).2.1, (h trivial).2.2.1, (h trivial).2.2.2.1⟩
theorem pv_GL_t {σ : pm_H} {p : Nat} (h : pv_GL σ p) : pm_rg σ (p + 4) 0 2304 (-1) 47 := (h trivial).2.2.2.2
theorem pv_GL_eq {σ τ : pm_H} {p : Nat} (h : pv_GL σ p) (e5 : τ p 5 = σ p 5) (e6 : τ p 6 = σ p 6) (e7 : τ p 7 = σ p 7) (t : pm_rg τ (p + 4) 0 2304 (-1) 47) : pv_GL τ p := by
  unfold pv_GL
  rw [e5, e6, e7]
  obtain ⟨h1, h2, h3, h4, -⟩ := h trivial
  exact fun _ => ⟨h1, h2, h3, h4, t⟩
theorem pv_GL_up {τ : pm_H} {p q : Nat} {i v : Int} (h : pv_GL τ p) (h1 : q ≠ p) (h2 : q ≠ p + 4) : pv_GL (pm_up τ q i v) p := pv_GL_eq h (congrFun (pu_ne (Ne.symm h1)) _) (congrFun (pu_ne (Ne.symm h1)) _) (congrFun (pu_ne (Ne.symm h1)) _) (pm_rg_ne (pv_GL_t h) (Ne.symm h2))
theorem pv_GL_u8 {τ : pm_H} {p : Nat} {v : Int} (h : pv_GL τ p) : pv_GL (pm_up τ p 8 v) p := pv_GL_eq h (pu_nei (by decide)) (pu_nei (by decide)) (pu_nei (by decide)) (pm_rg_ne (pv_GL_t h) (by omega))
/-- what a slot keeps to, filled or not -/
def pv_GI (σ : pm_H) (p : Nat) : Prop := True → (0 ≤ σ p 5 ∧ σ p 5 ≤ 48) ∧ (0 ≤ σ p 6 ∧ σ p 6 ≤ 192) ∧ (0 ≤ σ p 5 * σ p 6 ∧ σ p 5 * σ p 6 ≤ 192) ∧ (-1 ≤ σ p 7 ∧ (σ p 5 = 0 ∨ σ p 7 < σ p 5)) ∧ pm_rg σ (p + 4) 0 2304 (-1) 47
theorem pv_GI_n {σ : pm_H} {p : Nat} (h : pv_GI σ p) : (0 ≤ σ p 5 ∧ σ p 5 ≤ 48) ∧ (0 ≤ σ p 6 ∧ σ p 6 ≤ 192) ∧ (0 ≤ σ p 5 * σ p 6 ∧ σ p 5 * σ p 6 ≤ 192) := ⟨(h trivial).1, (h trivial).2.1, (h trivial).2.2.1⟩
theorem pv_GI_L {σ : pm_H} {p : Nat} (h : pv_GI σ p) (h0 : ¬ σ p 5 * σ p 6 = 0) : pv_GL σ p := by
  obtain ⟨h1, h2, h3, h4, h5⟩ := h trivial
  have a : σ p 5 ≠ 0 := fun z => h0 (by rw [z, Int.zero_mul])
  have b : σ p 6 ≠ 0 := fun z => h0 (by rw [z, Int.mul_zero])
  exact fun _ => ⟨by omega, by omega, by omega, by omega, h5⟩
theorem pv_GL_I {σ : pm_H} {p : Nat} (h : pv_GL σ p) : pv_GI σ p := by
  obtain ⟨h1, h2, h3, h4, h5⟩ := h trivial
  exact fun _ => ⟨by omega, by omega, by omega, by omega, h5⟩
theorem pv_GI_eq {σ τ : pm_H} {p : Nat} (h : pv_GI σ p) (e5 : τ p 5 = σ p 5) (e6 : τ p 6 = σ p 6) (e7 : τ p 7 = σ p 7) (t : τ (p + 4) = σ (p + 4)) : pv_GI τ p := by
  unfold pv_GI
  rw [e5, e6, e7]
  obtain ⟨h1, h2, h3, h4, h5⟩ := h trivial
  exact fun _ => ⟨h1, h2, h3, h4, pm_rg_eq h5 t⟩
/-- the same rows a place, the same numbers -/
def pv_od (a : Nat) (i : Int) (b : Nat) (j r : Int) : Prop := True → a = b → i = j → r = 0
theorem pv_od_0 {a b : Nat} {i j r : Int} (h : r = 0) : pv_od a i b j r := fun _ _ _ => h
theorem pv_od_n {σ : pm_H} {a b : Nat} {i j k r : Int} (h : ¬ σ a (i + k) = σ b (j + k)) : pv_od a i b j r := fun _ e1 e2 => absurd (by rw [e1, e2]) h
/-- one group's table was filled: the others stand -/
theorem pv_GL_fr {σ τ : pm_H} {p h : Nat} {as : List Nat} {fs : List (Nat × Int)} (hf : pm_fr as fs σ τ) (ht : pv_GL τ p) (hp : pm_isG p) (hh : pm_isG h) (hl : pv_GL σ h) (ha : ∀ q ∈ as, q = p + 4 ∨ q = p + 5 ∨ q < 41) (hs : ∀ z ∈ fs, (z.1 = p ∧ z.2 = 8) ∨ z.1 < 41) : pv_GL τ h := by
  by_cases e : h = p
  · rw [e]
    exact ht
  have a1 := pm_isG_n hp
  have a2 := pm_isG_n hh
  have n1 : ∀ q : Nat, 41 ≤ q → q ≠ p + 4 → q ≠ p + 5 → q ∉ as := fun q q0 q1 q2 z => by
    have := ha q z
    omega
  have n2 : ∀ (q : Nat) (k : Int), 41 ≤ q → (q ≠ p ∨ k ≠ 8) → (q, k) ∉ fs := fun q k q0 q1 z => by
    have := hs _ z
    dsimp only at this
    omega
  have e5 : τ h 5 = σ h 5 := hf h 5 (n1 _ (by omega) (by omega) (by omega)) (n2 _ _ (by omega) (by omega))
  have e6 : τ h 6 = σ h 6 := hf h 6 (n1 _ (by omega) (by omega) (by omega)) (n2 _ _ (by omega) (by omega))
  have e7 : τ h 7 = σ h 7 := hf h 7 (n1 _ (by omega) (by omega) (by omega)) (n2 _ _ (by omega) (by omega))
  refine pv_GL_eq hl e5 e6 e7 (fun k k1 k2 => ?_)
  rw [hf (h + 4) k (n1 _ (by omega) (by omega) (by omega)) (n2 _ _ (by omega) (by omega))]
  exact pv_GL_t hl k k1 k2
theorem pv_mono {a b m n : Int} (h : a ≤ b) (hm : 0 ≤ m) (hb : b * m ≤ n) : a * m ≤ n := Int.le_trans (Int.mul_le_mul_of_nonneg_right h hm) hb
theorem pv_prod {a b A B n : Int} (h1 : 0 ≤ a) (h2 : a ≤ A) (h3 : 0 ≤ b) (h4 : b ≤ B) (h : A * B ≤ n) : 0 ≤ a * b ∧ a * b ≤ n := ⟨Int.mul_nonneg h1 h3, Int.le_trans (Int.mul_le_mul h2 h4 h3 (by omega)) h⟩
/-- what the draft keeps to when a slot settles -/
def pv_DI (σ : pm_H) : Prop := True → (0 ≤ σ 6 7 ∧ σ 6 7 ≤ 48) ∧ (0 ≤ σ 6 8 ∧ σ 6 8 ≤ 192) ∧ (0 ≤ σ 6 7 * σ 6 8 ∧ σ 6 7 * σ 6 8 ≤ 192)
theorem pv_DI_n {σ : pm_H} (h : pv_DI σ) : (0 ≤ σ 6 7 ∧ σ 6 7 ≤ 48) ∧ (0 ≤ σ 6 8 ∧ σ 6 8 ≤ 192) ∧ (0 ≤ σ 6 7 * σ 6 8 ∧ σ 6 7 * σ 6 8 ≤ 192) := h trivial
theorem pv_DI_of {σ : pm_H} (h1 : 0 ≤ σ 6 7 ∧ σ 6 7 ≤ 48) (h2 : 0 ≤ σ 6 8 ∧ σ 6 8 ≤ 192) (h : σ 6 7 * σ 6 8 ≤ 192) : pv_DI σ := fun _ => ⟨h1, h2, Int.mul_nonneg h1.1 h2.1, h⟩
theorem pv_sc {a M P P' : Int} (h1 : 0 ≤ a) (h2 : a < M) (e : P' = P) (h3 : 0 ≤ P) (h4 : P ≤ 192) (h : M * P ≤ 192) : 0 ≤ w32 (a * P') ∧ w32 (a * P') + P' ≤ 192 := by
  subst e
  have b : (a + 1) * P' ≤ M * P' := Int.mul_le_mul_of_nonneg_right (by omega) h3
  rw [Int.add_mul, Int.one_mul] at b
  have c := Int.mul_nonneg h1 h3
  rw [w32_id (by omega)]
  omega
theorem pv_GI_mk {ρ σ : pm_H} {p : Nat} {r : Int} (hd : pv_DI σ) (e5 : ρ p 5 = σ 6 7) (e6 : ρ p 6 = σ 6 8) (hr : -1 ≤ r ∧ (r = -1 ∨ r < σ 6 7)) (e7 : ρ p 7 = r) (t : pm_rg ρ (p + 4) 0 2304 (-1) 47) : pv_GI ρ p := by
  obtain ⟨h1, h2, h3⟩ := hd trivial
  unfold pv_GI
  rw [e5, e6, e7]
  exact fun _ => ⟨h1, h2, h3, by omega, t⟩
end CLS
