/-! a row copied -/
section PTG
theorem pm_er_c1 {σ : pm_H} {a : Nat} {n n' : Int} (e : n' = n) : pm_er (pm_cp σ a 0 32 n 9) 32 0 n' (σ 32) := fun k h1 h2 => by
  unfold pm_cp
  rw [if_neg (by omega)]
theorem pm_er_c2 {σ : pm_H} {a : Nat} {n n' n9 : Int} (e : n' = n) (e9 : n9 = n' + 9) : pm_er (pm_cp σ a 0 32 n 9) 32 n' n9 (fun k => σ a (k - n')) := fun k h1 h2 => by
  subst e e9
  unfold pm_cp
  rw [if_pos ⟨rfl, h1, h2⟩]
  show σ a (0 + (k - n')) = σ a (k - n')
  rw [Int.zero_add]
end PTG
