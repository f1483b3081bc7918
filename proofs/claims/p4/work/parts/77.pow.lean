/-! powers of a row come back to the identity -/
section POW
def pv_pw (x : pm_O) : Nat → pm_O
  | 0 => pm_e
  | n + 1 => pm_mul x (pv_pw x n)
theorem pv_pw_in {X : Int → Int → Int} {n i : Int} (G : pm_Gr X n) (hi : 0 ≤ i ∧ i < n) : ∀ m : Nat, ∃ k : Int, 0 ≤ k ∧ k < n ∧ pm_o (X k) 0 = pv_pw (pm_o (X i) 0) m
  | 0 => G.ee
  | m + 1 => by
    obtain ⟨k, k1, k2, k3⟩ := pv_pw_in G hi m
    obtain ⟨l, l1, l2, l3⟩ := G.cl i k hi.1 hi.2 k1 k2
    refine ⟨l, l1, l2, ?_⟩
    rw [l3, k3]
    rfl
theorem pv_pw_can {X : Int → Int → Int} {n i : Int} (G : pm_Gr X n) (hi : 0 ≤ i ∧ i < n) : ∀ a d : Nat, pv_pw (pm_o (X i) 0) a = pv_pw (pm_o (X i) 0) (a + d) → pm_e = pv_pw (pm_o (X i) 0) d
  | 0, d, h => by
    rw [Nat.zero_add] at h
    exact h
  | a + 1, d, h => by
    refine pv_pw_can G hi a d ?_
    have e : a + 1 + d = (a + d) + 1 := by omega
    rw [e] at h
    obtain ⟨k, k1, k2, k3⟩ := pv_pw_in G hi a
    obtain ⟨l, l1, l2, l3⟩ := pv_pw_in G hi (a + d)
    have r1 := (G.md k k1 k2).2.1
    have r2 := (G.md l l1 l2).2.1
    rw [k3] at r1
    rw [l3] at r2
    exact pm_cancel (G.md i hi.1 hi.2).2.2 r1 r2 h
theorem pv_ord {X : Int → Int → Int} {n i : Int} (G : pm_Gr X n) (hi : 0 ≤ i ∧ i < n) : ∃ N : Nat, 1 ≤ N ∧ (N : Int) ≤ n ∧ pv_pw (pm_o (X i) 0) N = pm_e := by
  have hc : ∀ m : Nat, ∃ k : Nat, (k : Int) < n ∧ pm_o (X k) 0 = pv_pw (pm_o (X i) 0) m := fun m => by
    obtain ⟨k, k1, k2, k3⟩ := pv_pw_in G hi m
    exact ⟨k.toNat, by omega, by rw [Int.toNat_of_nonneg k1]; exact k3⟩
  let f : Nat → Nat := fun m => Classical.choose (hc m)
  have hf : ∀ m : Nat, ((f m : Nat) : Int) < n ∧ pm_o (X (f m)) 0 = pv_pw (pm_o (X i) 0) m := fun m => Classical.choose_spec (hc m)
  have n1 := G.n1
  by_cases inj : ∀ a b : Nat, a < n.toNat + 1 → b < n.toNat + 1 → f a = f b → a = b
  · obtain ⟨m, m1, m2⟩ := pm_pig (n.toNat + 1) f (fun a ha => by have := (hf a).1; omega) inj n.toNat (by omega)
    have := (hf m).1
    omega
  · have : ∃ a b : Nat, a < b ∧ b < n.toNat + 1 ∧ f a = f b := by
      refine Classical.byContradiction (fun hno => inj (fun a b ha hb e => ?_))
      by_cases h1 : a < b
      · exact absurd ⟨a, b, h1, hb, e⟩ hno
      · by_cases h2 : b < a
        · exact absurd ⟨b, a, h2, ha, e.symm⟩ hno
        · omega
    obtain ⟨a, b, h1, h2, h3⟩ := this
    refine ⟨b - a, by omega, by omega, ?_⟩
    have e1 := (hf a).2
    have e2 := (hf b).2
    rw [h3, e2] at e1
    refine (pv_pw_can G hi a (b - a) ?_).symm
    rw [show a + (b - a) = b by omega]
    exact e1.symm
/-- the same matrix -/
def pv_me (a b : pm_O) : Prop := True → a.a0 = b.a0 ∧ a.a1 = b.a1 ∧ a.a2 = b.a2 ∧ a.a3 = b.a3 ∧ a.a4 = b.a4 ∧ a.a5 = b.a5 ∧ a.a6 = b.a6 ∧ a.a7 = b.a7 ∧ a.a8 = b.a8
theorem pv_me_rf {a : pm_O} : pv_me a a := fun _ => ⟨rfl, rfl, rfl, rfl, rfl, rfl, rfl, rfl, rfl⟩
theorem pv_me_of {a b : pm_O} (h : a = b) : pv_me a b := h ▸ pv_me_rf
theorem pv_me_tr {a b c : pm_O} (h : pv_me a b) (g : pv_me b c) : pv_me a c := by
  intro _
  obtain ⟨h0, h1, h2, h3, h4, h5, h6, h7, h8⟩ := h trivial
  obtain ⟨g0, g1, g2, g3, g4, g5, g6, g7, g8⟩ := g trivial
  exact ⟨h0.trans g0, h1.trans g1, h2.trans g2, h3.trans g3, h4.trans g4, h5.trans g5, h6.trans g6, h7.trans g7, h8.trans g8⟩
theorem pv_me_mul {a b c : pm_O} (h : pv_me b c) : pv_me (pm_mul a b) (pm_mul a c) := by
  intro _
  obtain ⟨h0, h1, h2, h3, h4, h5, h6, h7, h8⟩ := h trivial
  simp only [pm_mul_0, pm_mul_1, pm_mul_2, pm_mul_3, pm_mul_4, pm_mul_5, pm_mul_6, pm_mul_7, pm_mul_8, h0, h1, h2, h3, h4, h5, h6, h7, h8, and_self]
/-- nine numbers are a matrix -/
theorem pv_me_o {f g : Int → Int} {b c : Int} (h : ∀ k : Int, 0 ≤ k → k < 9 → f (b + k) = g (c + k)) : pv_me (pm_o f b) (pm_o g c) := by
  intro _
  have h0 := h 0 (by omega) (by omega)
  rw [Int.add_zero, Int.add_zero] at h0
  exact ⟨h0, h 1 (by omega) (by omega), h 2 (by omega) (by omega), h 3 (by omega) (by omega), h 4 (by omega) (by omega), h 5 (by omega) (by omega), h 6 (by omega) (by omega), h 7 (by omega) (by omega), h 8 (by omega) (by omega)⟩
theorem pv_me_id {τ : pm_H} : pm_er τ 83 0 9 pm_idf ↔ pv_me (pm_o (τ 83) 0) pm_e := by
  constructor
  · intro h
    refine pv_me_tr (pv_me_o (g := pm_idf) (c := 0) (fun k k1 k2 => by rw [Int.zero_add]; exact h k k1 k2)) (fun _ => ?_)
    exact ⟨by decide, by decide, by decide, by decide, by decide, by decide, by decide, by decide, by decide⟩
  · intro h k k1 k2
    obtain ⟨h0, h1, h2, h3, h4, h5, h6, h7, h8⟩ := h trivial
    have : k = 0 ∨ k = 1 ∨ k = 2 ∨ k = 3 ∨ k = 4 ∨ k = 5 ∨ k = 6 ∨ k = 7 ∨ k = 8 := by omega
    rcases this with e | e | e | e | e | e | e | e | e <;> subst e
    · exact h0
    · exact h1
    · exact h2
    · exact h3
    · exact h4
    · exact h5
    · exact h6
    · exact h7
    · exact h8
end POW
