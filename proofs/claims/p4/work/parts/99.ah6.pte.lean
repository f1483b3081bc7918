/-! triples: commas, and whether the text goes on -/
section PTE
variable {T : Int → Int} {k k' : Int}
def pt_CO (T : Int → Int) (k k' r f p : Int) : Prop := True → ((r = 1 ∧ T (pt_sk T k) = 44 ∧ k' = pt_sk T k + 1) ∨ (r = 0 ∧ ¬ (T (pt_sk T k) = 44) ∧ f = 1 ∧ p = pt_sk T k))
theorem pt_CO_of {t r f p : Int} (ht : t = pt_tk T (pt_sk T k)) (h : (t = 44 ∧ r = 1 ∧ k' = pt_sk T k + 1) ∨ (¬ (t = 44) ∧ r = 0 ∧ f = 1 ∧ p = pt_sk T k)) : pt_CO T k k' r f p := fun _ => by
  have c := pt_c5 T (pt_sk T k)
  omega
def pt_GO (T : Int → Int) (k k' r f p : Int) : Prop := True → ((r = 1 ∧ T (pt_sk T k) = 59 ∧ k' = pt_sk T k + 1) ∨ (r = 0 ∧ T (pt_sk T k) = -1 ∧ f = 0 ∧ p = -1) ∨ (r = 0 ∧ ¬ (T (pt_sk T k) = -1) ∧ ¬ (T (pt_sk T k) = 59) ∧ f = 1 ∧ p = pt_sk T k))
theorem pt_GO_of {t r f p : Int} (ht : t = pt_tk T (pt_sk T k)) (h : (t = 59 ∧ r = 1 ∧ k' = pt_sk T k + 1) ∨ (t = -1 ∧ r = 0 ∧ f = 0 ∧ p = -1) ∨ (¬ (t = -1) ∧ ¬ (t = 59) ∧ r = 0 ∧ f = 1 ∧ p = pt_sk T k)) : pt_GO T k k' r f p := fun _ => by
  have c := pt_c5 T (pt_sk T k)
  omega
/-- a comma, and the next row; none, and the fault -/
theorem pt_CO_1 {row sg nm r f p : Int} {m : pc_M} (h : pt_CO T k k' r f p) (hr : r = 1) (h2 : row < 2) : pt_A T 4 k row sg nm m 1 k' (row + 1) 1 0 m := by
  rcases h trivial with ⟨_, a, b⟩ | ⟨e, _⟩
  · subst b
    exact pt_4c h2 a
  · omega
theorem pt_CO_0 {row sg nm r f p : Int} {m : pc_M} (h : pt_CO T k k' r f p) (hr : r = 0) (h2 : row < 2) : 0 < f ∧ pt_X T 4 k row sg nm m f p := by
  rcases h trivial with ⟨e, _⟩ | ⟨_, a, b, c⟩
  · omega
  · subst b c
    exact ⟨by decide, pt_4x h2 a⟩
end PTE
