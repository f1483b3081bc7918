/-! numbers of a row of a slot -/
section TXT
def pv_op (f : Int → Int) (b : Int) : Prop := True → (∀ k : Int, 0 ≤ k → k < 9 → -999 ≤ f (b + k) ∧ f (b + k) ≤ 999) ∧ (∀ k : Int, 9 ≤ k → k < 12 → 0 ≤ f (b + k) ∧ f (b + k) ≤ 23)
theorem pv_op_m {f : Int → Int} {b e : Int} (h : pv_op f b) (he : b ≤ e ∧ e < b + 9) : -999 ≤ f e ∧ f e ≤ 999 := by
  have := (h trivial).1 (e - b) (by omega) (by omega)
  rw [show b + (e - b) = e by omega] at this
  exact this
theorem pv_op_t {f : Int → Int} {b e : Int} (h : pv_op f b) (he : b + 9 ≤ e ∧ e < b + 12) : 0 ≤ f e ∧ f e ≤ 23 := by
  have := (h trivial).2 (e - b) (by omega) (by omega)
  rw [show b + (e - b) = e by omega] at this
  exact this
theorem pv_op_G {σ : pm_H} {s n k : Int} (G : pm_Gr (pm_rk σ s) n) (h : 0 ≤ k ∧ k < n) : pv_op (σ 86) (4608 * s + 12 * k) := by
  intro _
  refine ⟨fun j j1 j2 => pm_rk_sz G h.1 h.2 j j1 (by omega), fun j j1 j2 => ?_⟩
  have hr := (G.md k h.1 h.2).2.1
  rw [pm_rk_o] at hr
  unfold pm_red at hr
  rw [pm_o_9, pm_o_10, pm_o_11] at hr
  have : j = 9 ∨ j = 10 ∨ j = 11 := by omega
  rcases this with e | e | e <;> subst e <;> omega
theorem pv_dv1 {a b : Int} (h : 0 ≤ a) (hb : 1 ≤ b) : 0 ≤ a / b := Int.ediv_nonneg h (by omega)
theorem pv_dv2 {a b c : Int} (h : 0 ≤ a) (ha : a ≤ c) (hb : 1 ≤ b) : a / b ≤ c := by
  have := Int.ediv_le_self b h
  omega
theorem pv_dw {a b : Int} (h : 0 ≤ a ∧ a ≤ 999) (hb : 1 ≤ b) : 0 ≤ w32 (a / b) ∧ w32 (a / b) ≤ 999 := by
  have h1 := pv_dv1 h.1 hb
  have h2 := pv_dv2 h.1 h.2 hb
  rw [w32_id (by omega)]
  exact ⟨h1, h2⟩
theorem pv_op_eq {f g : Int → Int} {b : Int} (h : pv_op f b) (e : f = g) : pv_op g b := e ▸ h
/-- what basis answers -/
def pv_bs (k v : Int) : Int := if (0 ≤ k ∧ k ≤ 11) ∧ (k < 9 → -9 ≤ v ∧ v ≤ 9) ∧ (9 ≤ k → 0 ≤ v ∧ v ≤ 23) then 1 else 0
theorem pv_bs_1 {k v : Int} (h : (0 ≤ k ∧ k ≤ 11) ∧ (k < 9 → -9 ≤ v ∧ v ≤ 9) ∧ (9 ≤ k → 0 ≤ v ∧ v ≤ 23)) : 1 = pv_bs k v := by
  unfold pv_bs
  rw [if_pos h]
theorem pv_bs_0 {k v : Int} (h : (k < 0 ∨ 11 < k) ∨ (k < 9 ∧ (v < -9 ∨ 9 < v)) ∨ (9 ≤ k ∧ (v < 0 ∨ 23 < v))) : 0 = pv_bs k v := by
  unfold pv_bs
  rw [if_neg (fun z => by omega)]
theorem pv_er_ex {τ : pm_H} {q : Nat} {a b b' v : Int} {f : Int → Int} (h : pm_er τ q a b f) (hv : τ q b = v) (e : v = f b) (hb : b' = b + 1) : pm_er τ q a b' f := by
  subst hb
  intro k k1 k2
  by_cases hk : k = b
  · rw [hk, hv, e]
  · exact h k k1 (by omega)
theorem pv_er_no {τ : pm_H} {q : Nat} {a b k v : Int} {f : Int → Int} (h1 : a ≤ k ∧ k < b) (hv : ¬ τ q k = v) (e : v = f k) : ¬ pm_er τ q a b f := fun h => hv (by rw [h k h1.1 h1.2, e])
theorem pv_tm {a b : Int} (h : ¬ b = 0) : (0 < b → -b < Int.tmod a b ∧ Int.tmod a b < b) ∧ (b < 0 → b < Int.tmod a b ∧ Int.tmod a b < -b) := by
  refine ⟨fun z => (pm_tm z).2.2, fun z => ?_⟩
  have h1 := (pm_tm (a := a) (b := -b) (by omega)).2.2
  rw [Int.tmod_neg] at h1
  omega
end TXT
