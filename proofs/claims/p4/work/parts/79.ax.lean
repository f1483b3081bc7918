/-! small facts for the axis and for calls by place -/
section AX
theorem pv_ne_e {f : Int → Int} (h : pm_o f 0 = pm_e) : pv_me (pm_o f 0) pm_e ∧ f 9 = 0 ∧ f 10 = 0 ∧ f 11 = 0 := by
  refine ⟨pv_me_of h, ?_, ?_, ?_⟩
  · exact congrArg pm_O.a9 h
  · exact congrArg pm_O.a10 h
  · exact congrArg pm_O.a11 h
theorem pv_wneg {c : Int} (h : -2147483648 ≤ c ∧ c ≤ 2147483647) (hc : ¬ c = 0) : ¬ w32 (-c) = 0 := by
  unfold w32
  omega
theorem pv_at_G {σ τ : pm_H} {s i r : Int} (h : r = 0 ∨ pm_Gr (pm_rk σ s) (σ 87 s)) (hr : ¬ r = 0) (e : τ 86 = σ 86) (e2 : τ 87 = σ 87) (hs : 0 ≤ s ∧ s ≤ 5) (hi : 0 ≤ i ∧ i < σ 87 s) : pv_at τ (4608 * s + 12 * i) := by
  refine pv_at_eq (σ := σ) (fun _ => ⟨s, i, rfl, by omega, Or.resolve_left h hr, hi⟩) e e2
end AX
