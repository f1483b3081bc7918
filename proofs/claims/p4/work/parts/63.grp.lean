/-! operators as twelve numbers: their product, and finite sets that are closed -/
section GRP
def pm_O : Type := Int × Int × Int × Int × Int × Int × Int × Int × Int × Int × Int × Int
def pm_O.a0 (x : pm_O) : Int := x.1
def pm_O.a1 (x : pm_O) : Int := x.2.1
def pm_O.a2 (x : pm_O) : Int := x.2.2.1
def pm_O.a3 (x : pm_O) : Int := x.2.2.2.1
def pm_O.a4 (x : pm_O) : Int := x.2.2.2.2.1
def pm_O.a5 (x : pm_O) : Int := x.2.2.2.2.2.1
def pm_O.a6 (x : pm_O) : Int := x.2.2.2.2.2.2.1
def pm_O.a7 (x : pm_O) : Int := x.2.2.2.2.2.2.2.1
def pm_O.a8 (x : pm_O) : Int := x.2.2.2.2.2.2.2.2.1
def pm_O.a9 (x : pm_O) : Int := x.2.2.2.2.2.2.2.2.2.1
def pm_O.a10 (x : pm_O) : Int := x.2.2.2.2.2.2.2.2.2.2.1
def pm_O.a11 (x : pm_O) : Int := x.2.2.2.2.2.2.2.2.2.2.2
theorem pm_O.ext {a b : pm_O} (h0 : a.a0 = b.a0) (h1 : a.a1 = b.a1) (h2 : a.a2 = b.a2) (h3 : a.a3 = b.a3) (h4 : a.a4 = b.a4) (h5 : a.a5 = b.a5) (h6 : a.a6 = b.a6) (h7 : a.a7 = b.a7) (h8 : a.a8 = b.a8) (h9 : a.a9 = b.a9) (h10 : a.a10 = b.a10) (h11 : a.a11 = b.a11) : a = b := by
  obtain ⟨a0, a1, a2, a3, a4, a5, a6, a7, a8, a9, a10, a11⟩ := a
  obtain ⟨b0, b1, b2, b3, b4, b5, b6, b7, b8, b9, b10, b11⟩ := b
  dsimp only [pm_O.a0, pm_O.a1, pm_O.a2, pm_O.a3, pm_O.a4, pm_O.a5, pm_O.a6, pm_O.a7, pm_O.a8, pm_O.a9, pm_O.a10, pm_O.a11] at h0 h1 h2 h3 h4 h5 h6 h7 h8 h9 h10 h11
  subst h0 h1 h2 h3 h4 h5 h6 h7 h8 h9 h10 h11
  rfl
def pm_mul (a b : pm_O) : pm_O := (a.a0 * b.a0 + a.a1 * b.a3 + a.a2 * b.a6, a.a0 * b.a1 + a.a1 * b.a4 + a.a2 * b.a7, a.a0 * b.a2 + a.a1 * b.a5 + a.a2 * b.a8, a.a3 * b.a0 + a.a4 * b.a3 + a.a5 * b.a6, a.a3 * b.a1 + a.a4 * b.a4 + a.a5 * b.a7, a.a3 * b.a2 + a.a4 * b.a5 + a.a5 * b.a8, a.a6 * b.a0 + a.a7 * b.a3 + a.a8 * b.a6, a.a6 * b.a1 + a.a7 * b.a4 + a.a8 * b.a7, a.a6 * b.a2 + a.a7 * b.a5 + a.a8 * b.a8, (a.a0 * b.a9 + a.a1 * b.a10 + a.a2 * b.a11 + a.a9) % 24, (a.a3 * b.a9 + a.a4 * b.a10 + a.a5 * b.a11 + a.a10) % 24, (a.a6 * b.a9 + a.a7 * b.a10 + a.a8 * b.a11 + a.a11) % 24)
theorem pm_mul_0 (a b : pm_O) : (pm_mul a b).a0 = a.a0 * b.a0 + a.a1 * b.a3 + a.a2 * b.a6 := rfl
theorem pm_mul_1 (a b : pm_O) : (pm_mul a b).a1 = a.a0 * b.a1 + a.a1 * b.a4 + a.a2 * b.a7 := rfl
theorem pm_mul_2 (a b : pm_O) : (pm_mul a b).a2 = a.a0 * b.a2 + a.a1 * b.a5 + a.a2 * b.a8 := rfl
theorem pm_mul_3 (a b : pm_O) : (pm_mul a b).a3 = a.a3 * b.a0 + a.a4 * b.a3 + a.a5 * b.a6 := rfl
theorem pm_mul_4 (a b : pm_O) : (pm_mul a b).a4 = a.a3 * b.a1 + a.a4 * b.a4 + a.a5 * b.a7 := rfl
theorem pm_mul_5 (a b : pm_O) : (pm_mul a b).a5 = a.a3 * b.a2 + a.a4 * b.a5 + a.a5 * b.a8 := rfl
theorem pm_mul_6 (a b : pm_O) : (pm_mul a b).a6 = a.a6 * b.a0 + a.a7 * b.a3 + a.a8 * b.a6 := rfl
theorem pm_mul_7 (a b : pm_O) : (pm_mul a b).a7 = a.a6 * b.a1 + a.a7 * b.a4 + a.a8 * b.a7 := rfl
theorem pm_mul_8 (a b : pm_O) : (pm_mul a b).a8 = a.a6 * b.a2 + a.a7 * b.a5 + a.a8 * b.a8 := rfl
theorem pm_mul_9 (a b : pm_O) : (pm_mul a b).a9 = (a.a0 * b.a9 + a.a1 * b.a10 + a.a2 * b.a11 + a.a9) % 24 := rfl
theorem pm_mul_10 (a b : pm_O) : (pm_mul a b).a10 = (a.a3 * b.a9 + a.a4 * b.a10 + a.a5 * b.a11 + a.a10) % 24 := rfl
theorem pm_mul_11 (a b : pm_O) : (pm_mul a b).a11 = (a.a6 * b.a9 + a.a7 * b.a10 + a.a8 * b.a11 + a.a11) % 24 := rfl
def pm_e : pm_O := (1, 0, 0, 0, 1, 0, 0, 0, 1, 0, 0, 0)
theorem pm_e_0 : pm_e.a0 = 1 := rfl
theorem pm_e_1 : pm_e.a1 = 0 := rfl
theorem pm_e_2 : pm_e.a2 = 0 := rfl
theorem pm_e_3 : pm_e.a3 = 0 := rfl
theorem pm_e_4 : pm_e.a4 = 1 := rfl
theorem pm_e_5 : pm_e.a5 = 0 := rfl
theorem pm_e_6 : pm_e.a6 = 0 := rfl
theorem pm_e_7 : pm_e.a7 = 0 := rfl
theorem pm_e_8 : pm_e.a8 = 1 := rfl
theorem pm_e_9 : pm_e.a9 = 0 := rfl
theorem pm_e_10 : pm_e.a10 = 0 := rfl
theorem pm_e_11 : pm_e.a11 = 0 := rfl
def pm_dt (a : pm_O) : Int := a.a0 * (a.a4 * a.a8 - a.a5 * a.a7) - a.a1 * (a.a3 * a.a8 - a.a5 * a.a6) + a.a2 * (a.a3 * a.a7 - a.a4 * a.a6)
theorem pm_m24 (a b c d x y z : Int) : (a * (x % 24) + b * (y % 24) + c * (z % 24) + d) % 24 = (a * x + b * y + c * z + d) % 24 := by
  have hx := Int.emod_def x 24
  have hy := Int.emod_def y 24
  have hz := Int.emod_def z 24
  have e : a * x + b * y + c * z + d = a * (x % 24) + b * (y % 24) + c * (z % 24) + d + 24 * (a * (x / 24) + b * (y / 24) + c * (z / 24)) := by
    rw [hx, hy, hz]
    grind
  rw [e, Int.add_mul_emod_self_left]
theorem pm_m24b (x y : Int) : (x + y % 24) % 24 = (x + y) % 24 := by omega
theorem pm_assoc (a b c : pm_O) : pm_mul (pm_mul a b) c = pm_mul a (pm_mul b c) := by
  refine pm_O.ext ?_ ?_ ?_ ?_ ?_ ?_ ?_ ?_ ?_ ?_ ?_ ?_
  all_goals (simp only [pm_mul_0, pm_mul_1, pm_mul_2, pm_mul_3, pm_mul_4, pm_mul_5, pm_mul_6, pm_mul_7, pm_mul_8, pm_mul_9, pm_mul_10, pm_mul_11])
  all_goals (try rw [pm_m24])
  all_goals (try rw [pm_m24b])
  all_goals (first | grind | (congr 1; grind))
theorem pm_dt_mul (a b : pm_O) : pm_dt (pm_mul a b) = pm_dt a * pm_dt b := by
  unfold pm_dt
  simp only [pm_mul_0, pm_mul_1, pm_mul_2, pm_mul_3, pm_mul_4, pm_mul_5, pm_mul_6, pm_mul_7, pm_mul_8, pm_mul_9, pm_mul_10, pm_mul_11]
  grind
/-- translations from 0 to 23 -/
def pm_red (a : pm_O) : Prop := (0 ≤ a.a9 ∧ a.a9 ≤ 23) ∧ (0 ≤ a.a10 ∧ a.a10 ≤ 23) ∧ (0 ≤ a.a11 ∧ a.a11 ≤ 23)
theorem pm_red_mul (a b : pm_O) : pm_red (pm_mul a b) := by
  unfold pm_red
  simp only [pm_mul_0, pm_mul_1, pm_mul_2, pm_mul_3, pm_mul_4, pm_mul_5, pm_mul_6, pm_mul_7, pm_mul_8, pm_mul_9, pm_mul_10, pm_mul_11]
  omega
theorem pm_e_mul {a : pm_O} (h : pm_red a) : pm_mul pm_e a = a := by
  unfold pm_red at h
  refine pm_O.ext ?_ ?_ ?_ ?_ ?_ ?_ ?_ ?_ ?_ ?_ ?_ ?_ <;> simp only [pm_mul_0, pm_mul_1, pm_mul_2, pm_mul_3, pm_mul_4, pm_mul_5, pm_mul_6, pm_mul_7, pm_mul_8, pm_mul_9, pm_mul_10, pm_mul_11, pm_e_0, pm_e_1, pm_e_2, pm_e_3, pm_e_4, pm_e_5, pm_e_6, pm_e_7, pm_e_8, pm_e_9, pm_e_10, pm_e_11] <;> omega
theorem pm_mul_e {a : pm_O} (h : pm_red a) : pm_mul a pm_e = a := by
  unfold pm_red at h
  refine pm_O.ext ?_ ?_ ?_ ?_ ?_ ?_ ?_ ?_ ?_ ?_ ?_ ?_ <;> simp only [pm_mul_0, pm_mul_1, pm_mul_2, pm_mul_3, pm_mul_4, pm_mul_5, pm_mul_6, pm_mul_7, pm_mul_8, pm_mul_9, pm_mul_10, pm_mul_11, pm_e_0, pm_e_1, pm_e_2, pm_e_3, pm_e_4, pm_e_5, pm_e_6, pm_e_7, pm_e_8, pm_e_9, pm_e_10, pm_e_11] <;> grind
def pm_unit (a : pm_O) : Prop := pm_dt a = 1 ∨ pm_dt a = -1
theorem pm_unit_mul {a b : pm_O} (h : pm_unit a) (g : pm_unit b) : pm_unit (pm_mul a b) := by
  unfold pm_unit at *
  rw [pm_dt_mul]
  rcases h with h | h <;> rcases g with g | g <;> rw [h, g] <;> decide
theorem pm_unit_e : pm_unit pm_e := by
  unfold pm_unit pm_dt
  simp only [pm_e_0, pm_e_1, pm_e_2, pm_e_3, pm_e_4, pm_e_5, pm_e_6, pm_e_7, pm_e_8, pm_e_9, pm_e_10, pm_e_11]
  decide
/-- a column is known by what a matrix of determinant 1 or -1 makes of it -/
theorem pm_col {a : pm_O} (h : pm_unit a) {x y z x' y' z' : Int} (h1 : a.a0 * x + a.a1 * y + a.a2 * z = a.a0 * x' + a.a1 * y' + a.a2 * z') (h2 : a.a3 * x + a.a4 * y + a.a5 * z = a.a3 * x' + a.a4 * y' + a.a5 * z') (h3 : a.a6 * x + a.a7 * y + a.a8 * z = a.a6 * x' + a.a7 * y' + a.a8 * z') : x = x' ∧ y = y' ∧ z = z' := by
  have e1 : pm_dt a * x = pm_dt a * x' := by
    unfold pm_dt
    grind
  have e2 : pm_dt a * y = pm_dt a * y' := by
    unfold pm_dt
    grind
  have e3 : pm_dt a * z = pm_dt a * z' := by
    unfold pm_dt
    grind
  rcases h with h | h <;> rw [h] at e1 e2 e3 <;> omega
end GRP
