/-! operators as twelve numbers: their product, and finite sets that are closed -/
section GRP
@[ext] structure pm_O where
  a0 : Int
  a1 : Int
  a2 : Int
  a3 : Int
  a4 : Int
  a5 : Int
  a6 : Int
  a7 : Int
  a8 : Int
  a9 : Int
  a10 : Int
  a11 : Int
def pm_mul (a b : pm_O) : pm_O where
  a0 := a.a0 * b.a0 + a.a1 * b.a3 + a.a2 * b.a6
  a1 := a.a0 * b.a1 + a.a1 * b.a4 + a.a2 * b.a7
  a2 := a.a0 * b.a2 + a.a1 * b.a5 + a.a2 * b.a8
  a3 := a.a3 * b.a0 + a.a4 * b.a3 + a.a5 * b.a6
  a4 := a.a3 * b.a1 + a.a4 * b.a4 + a.a5 * b.a7
  a5 := a.a3 * b.a2 + a.a4 * b.a5 + a.a5 * b.a8
  a6 := a.a6 * b.a0 + a.a7 * b.a3 + a.a8 * b.a6
  a7 := a.a6 * b.a1 + a.a7 * b.a4 + a.a8 * b.a7
  a8 := a.a6 * b.a2 + a.a7 * b.a5 + a.a8 * b.a8
  a9 := (a.a0 * b.a9 + a.a1 * b.a10 + a.a2 * b.a11 + a.a9) % 24
  a10 := (a.a3 * b.a9 + a.a4 * b.a10 + a.a5 * b.a11 + a.a10) % 24
  a11 := (a.a6 * b.a9 + a.a7 * b.a10 + a.a8 * b.a11 + a.a11) % 24
def pm_e : pm_O := ⟨1, 0, 0, 0, 1, 0, 0, 0, 1, 0, 0, 0⟩
def pm_dt (a : pm_O) : Int := a.a0 * (a.a4 * a.a8 - a.a5 * a.a7) - a.a1 * (a.a3 * a.a8 - a.a5 * a.a6) + a.a2 * (a.a3 * a.a7 - a.a4 * a.a6)
theorem pm_m24 (a b c d x y z : Int) : (a * (x % 24) + b * (y % 24) + c * (z % 24) + d) % 24 = (a * x + b * y + c * z + d) % 24 := by
  have hx := Int.emod_def x 24
  have hy := Int.emod_def y 24
  have hz := Int.emod_def z 24
  have e : a * x + b * y + c * z + d = a * (x % 24) + b * (y % 24) + c * (z % 24) + d + 24 * (a * (x / 24) + b * (y / 24) + c * (z / 24)) := by
    rw [hx, hy, hz]
    grind
  rw [e, Int.add_mul_emod_self_left]
theorem pm_m24b (x y : Int) : (x + y % 24) % 24 = (x + y) % 24 := by omega
theorem pm_assoc (a b c : pm_O) : pm_mul (pm_mul a b) c = pm_mul a (pm_mul b c) := by
  unfold pm_mul
  ext
  all_goals (dsimp only)
  all_goals (try rw [pm_m24])
  all_goals (try rw [pm_m24b])
  all_goals (first | grind | (congr 1; grind))
theorem pm_dt_mul (a b : pm_O) : pm_dt (pm_mul a b) = pm_dt a * pm_dt b := by
  unfold pm_dt pm_mul
  dsimp only
  grind
/-- translations from 0 to 23 -/
def pm_red (a : pm_O) : Prop := (0 ≤ a.a9 ∧ a.a9 ≤ 23) ∧ (0 ≤ a.a10 ∧ a.a10 ≤ 23) ∧ (0 ≤ a.a11 ∧ a.a11 ≤ 23)
theorem pm_red_mul (a b : pm_O) : pm_red (pm_mul a b) := by
  unfold pm_red pm_mul
  dsimp only
  omega
theorem pm_e_mul {a : pm_O} (h : pm_red a) : pm_mul pm_e a = a := by
  unfold pm_red at h
  unfold pm_mul pm_e
  ext <;> dsimp only <;> omega
theorem pm_mul_e {a : pm_O} (h : pm_red a) : pm_mul a pm_e = a := by
  unfold pm_red at h
  unfold pm_mul pm_e
  ext <;> dsimp only <;> grind
def pm_unit (a : pm_O) : Prop := pm_dt a = 1 ∨ pm_dt a = -1
theorem pm_unit_mul {a b : pm_O} (h : pm_unit a) (g : pm_unit b) : pm_unit (pm_mul a b) := by
  unfold pm_unit at *
  rw [pm_dt_mul]
  rcases h with h | h <;> rcases g with g | g <;> rw [h, g] <;> decide
theorem pm_unit_e : pm_unit pm_e := by
  unfold pm_unit pm_dt pm_e
  decide
/-- a column is known by what a matrix of determinant 1 or -1 makes of it -/
theorem pm_col {a : pm_O} (h : pm_unit a) {x y z x' y' z' : Int} (h1 : a.a0 * x + a.a1 * y + a.a2 * z = a.a0 * x' + a.a1 * y' + a.a2 * z') (h2 : a.a3 * x + a.a4 * y + a.a5 * z = a.a3 * x' + a.a4 * y' + a.a5 * z') (h3 : a.a6 * x + a.a7 * y + a.a8 * z = a.a6 * x' + a.a7 * y' + a.a8 * z') : x = x' ∧ y = y' ∧ z = z' := by
  have e1 : pm_dt a * x = pm_dt a * x' := by
    unfold pm_dt
    grind
  have e2 : pm_dt a * y = pm_dt a * y' := by
    unfold pm_dt
    grind
  have e3 : pm_dt a * z = pm_dt a * z' := by
    unfold pm_dt
    grind
  rcases h with h | h <;> rw [h] at e1 e2 e3 <;> omega
end GRP
