/-! texts of triples: blanks, digits, and how a text is read step by step -/
section PT
def pt_lim (T : Int → Int) : Prop := ∀ k : Int, 400 ≤ k → T k = -1
def pt_skf (T : Int → Int) : Nat → Int → Int
  | 0, k => k
  | f + 1, k => if T k = 32 then pt_skf T f (k + 1) else k
def pt_dgf (T : Int → Int) : Nat → Int → Int
  | 0, k => k
  | f + 1, k => if 48 ≤ T k ∧ T k ≤ 57 then pt_dgf T f (k + 1) else k
/-- behind the blanks -/
def pt_sk (T : Int → Int) (k : Int) : Int := pt_skf T 1000 k
/-- behind the digits -/
def pt_dg (T : Int → Int) (k : Int) : Int := pt_dgf T 1000 k
theorem pt_skf_st {T : Int → Int} (h : pt_lim T) : ∀ (f : Nat) (k : Int), 400 - k ≤ f → pt_skf T (f + 1) k = pt_skf T f k
  | 0, k, hk => by
    have e := h k (by omega)
    show (if T k = 32 then pt_skf T 0 (k + 1) else k) = k
    rw [if_neg (by omega)]
  | f + 1, k, hk => by
    show (if T k = 32 then pt_skf T (f + 1) (k + 1) else k) = (if T k = 32 then pt_skf T f (k + 1) else k)
    rw [pt_skf_st h f (k + 1) (by omega)]
theorem pt_dgf_st {T : Int → Int} (h : pt_lim T) : ∀ (f : Nat) (k : Int), 400 - k ≤ f → pt_dgf T (f + 1) k = pt_dgf T f k
  | 0, k, hk => by
    have e := h k (by omega)
    show (if 48 ≤ T k ∧ T k ≤ 57 then pt_dgf T 0 (k + 1) else k) = k
    rw [if_neg (by omega)]
  | f + 1, k, hk => by
    show (if 48 ≤ T k ∧ T k ≤ 57 then pt_dgf T (f + 1) (k + 1) else k) = (if 48 ≤ T k ∧ T k ≤ 57 then pt_dgf T f (k + 1) else k)
    rw [pt_dgf_st h f (k + 1) (by omega)]
theorem pt_sk_y {T : Int → Int} (h : pt_lim T) {k : Int} (hk : 0 ≤ k) (e : T k = 32) : pt_sk T k = pt_sk T (k + 1) := by
  show (if T k = 32 then pt_skf T 999 (k + 1) else k) = pt_skf T 1000 (k + 1)
  rw [if_pos e]
  exact (pt_skf_st h 999 (k + 1) (by omega)).symm
theorem pt_sk_n {T : Int → Int} {k : Int} (e : T k ≠ 32) : pt_sk T k = k := by
  show (if T k = 32 then pt_skf T 999 (k + 1) else k) = k
  rw [if_neg e]
theorem pt_dg_y {T : Int → Int} (h : pt_lim T) {k : Int} (hk : 0 ≤ k) (e : 48 ≤ T k ∧ T k ≤ 57) : pt_dg T k = pt_dg T (k + 1) := by
  show (if 48 ≤ T k ∧ T k ≤ 57 then pt_dgf T 999 (k + 1) else k) = pt_dgf T 1000 (k + 1)
  rw [if_pos e]
  exact (pt_dgf_st h 999 (k + 1) (by omega)).symm
theorem pt_dg_n {T : Int → Int} {k : Int} (e : ¬ (48 ≤ T k ∧ T k ≤ 57)) : pt_dg T k = k := by
  show (if 48 ≤ T k ∧ T k ≤ 57 then pt_dgf T 999 (k + 1) else k) = k
  rw [if_neg e]
theorem pt_skf_ge {T : Int → Int} : ∀ (f : Nat) (k : Int), k ≤ pt_skf T f k
  | 0, k => Int.le_refl k
  | f + 1, k => by
    have i := pt_skf_ge (T := T) f (k + 1)
    show k ≤ (if T k = 32 then pt_skf T f (k + 1) else k)
    split <;> omega
theorem pt_sk_ge (T : Int → Int) (k : Int) : k ≤ pt_sk T k := pt_skf_ge 1000 k
theorem pt_dgf_ge {T : Int → Int} : ∀ (f : Nat) (k : Int), k ≤ pt_dgf T f k
  | 0, k => Int.le_refl k
  | f + 1, k => by
    have i := pt_dgf_ge (T := T) f (k + 1)
    show k ≤ (if 48 ≤ T k ∧ T k ≤ 57 then pt_dgf T f (k + 1) else k)
    split <;> omega
theorem pt_dg_ge (T : Int → Int) (k : Int) : k ≤ pt_dg T k := pt_dgf_ge 1000 k
theorem pt_skf_ne {T : Int → Int} (h : pt_lim T) : ∀ (f : Nat) (k : Int), 400 - k ≤ f → T (pt_skf T f k) ≠ 32
  | 0, k, hk => by
    have e := h k (by omega)
    show T k ≠ 32
    omega
  | f + 1, k, hk => by
    show T (if T k = 32 then pt_skf T f (k + 1) else k) ≠ 32
    split
    · exact pt_skf_ne h f (k + 1) (by omega)
    · assumption
theorem pt_sk_ne {T : Int → Int} (h : pt_lim T) {k : Int} (hk : 0 ≤ k) : T (pt_sk T k) ≠ 32 := pt_skf_ne h 1000 k (by omega)
theorem pt_sk_sk {T : Int → Int} (h : pt_lim T) {k : Int} (hk : 0 ≤ k) : pt_sk T (pt_sk T k) = pt_sk T k := pt_sk_n (pt_sk_ne h hk)
def pt_tk (T : Int → Int) (s : Int) : Int :=
  if T s = -1 then -1
  else if 48 ≤ T s ∧ T s ≤ 57 then (if pt_dg T s - s ≤ 2 then 48 else -2)
  else if T s = 43 ∨ T s = 45 ∨ T s = 44 ∨ T s = 59 ∨ T s = 47 ∨ (120 ≤ T s ∧ T s ≤ 122) then T s
  else -2
def pt_vl (T : Int → Int) (s : Int) : Int := if pt_dg T s = s + 1 then T s - 48 else 10 * (T s - 48) + (T (s + 1) - 48)
def pt_get (m : pc_M) (i : Int) : Int := if i = 0 then m.1 else if i = 1 then m.2.1 else if i = 2 then m.2.2.1 else if i = 3 then m.2.2.2.1 else if i = 4 then m.2.2.2.2.1 else if i = 5 then m.2.2.2.2.2.1 else if i = 6 then m.2.2.2.2.2.2.1 else if i = 7 then m.2.2.2.2.2.2.2.1 else m.2.2.2.2.2.2.2.2
def pt_set (m : pc_M) (i v : Int) : pc_M := (if i = 0 then v else m.1, if i = 1 then v else m.2.1, if i = 2 then v else m.2.2.1, if i = 3 then v else m.2.2.2.1, if i = 4 then v else m.2.2.2.2.1, if i = 5 then v else m.2.2.2.2.2.1, if i = 6 then v else m.2.2.2.2.2.2.1, if i = 7 then v else m.2.2.2.2.2.2.2.1, if i = 8 then v else m.2.2.2.2.2.2.2.2)
def pt_m (f : Int → Int) (a : Int) : pc_M := (f a, f (a + 1), f (a + 2), f (a + 3), f (a + 4), f (a + 5), f (a + 6), f (a + 7), f (a + 8))
def pt_0 : pc_M := (0, 0, 0, 0, 0, 0, 0, 0, 0)
/-- the rows ahead of row r, the others 0 -/
def pt_zf (r : Int) (m : pc_M) : pc_M := (if 0 < r then m.1 else 0, if 0 < r then m.2.1 else 0, if 0 < r then m.2.2.1 else 0, if 1 < r then m.2.2.2.1 else 0, if 1 < r then m.2.2.2.2.1 else 0, if 1 < r then m.2.2.2.2.2.1 else 0, if 2 < r then m.2.2.2.2.2.2.1 else 0, if 2 < r then m.2.2.2.2.2.2.2.1 else 0, if 2 < r then m.2.2.2.2.2.2.2.2 else 0)
theorem pt_zf_0 (m : pc_M) : pt_zf 0 m = pt_0 := rfl
theorem pt_zf_3 (m : pc_M) : pt_zf 3 m = m := rfl
/-- where it stands (what is next, place, row, sign, whether a number was, matrix, first place, number of the triple, generators) -/
abbrev pt_S : Type := Int × Int × Int × Int × Int × pc_M × Int × Int × List pc_M
/-- fault, place, generators -/
abbrev pt_R : Type := Int × Int × List pc_M
def pt_stp (T : Int → Int) (q k row sg nm : Int) (m : pc_M) (fi n : Int) (L : List pc_M) : pt_S ⊕ pt_R :=
  if q = 0 then
    if pt_tk T (pt_sk T k) = 48 ∨ pt_tk T (pt_sk T k) = 43 ∨ pt_tk T (pt_sk T k) = 45 ∨ (120 ≤ pt_tk T (pt_sk T k) ∧ pt_tk T (pt_sk T k) ≤ 122) then
      if 12 ≤ n then .inr (5, pt_sk T k, []) else .inl (1, pt_sk T k, 0, 1, 0, pt_0, pt_sk T k, n, L)
    else .inr (1, pt_sk T k, [])
  else if q = 1 then
    if T (pt_sk T k) = 43 then .inl (2, pt_sk T k + 1, row, 1, 0, m, fi, n, L)
    else if T (pt_sk T k) = 45 then .inl (2, pt_sk T k + 1, row, -1, 0, m, fi, n, L)
    else .inl (2, pt_sk T k, row, 1, 0, m, fi, n, L)
  else if q = 2 then
    if pt_tk T (pt_sk T k) = 48 then
      if nm ≠ 0 then .inr (2, pt_sk T k, []) else .inl (6, pt_dg T (pt_sk T k), row, sg, 1, m, fi, n, L)
    else if 120 ≤ pt_tk T (pt_sk T k) ∧ pt_tk T (pt_sk T k) ≤ 122 then
      if pt_get m (3 * row + pt_tk T (pt_sk T k) - 120) ≠ 0 then .inr (2, pt_sk T k, [])
      else .inl (3, pt_sk T k + 1, row, 1, nm, pt_set m (3 * row + pt_tk T (pt_sk T k) - 120) sg, fi, n, L)
    else .inr (1, pt_sk T k, [])
  else if q = 3 then
    if T (pt_sk T k) = 43 then .inl (2, pt_sk T k + 1, row, 1, nm, m, fi, n, L)
    else if T (pt_sk T k) = 45 then .inl (2, pt_sk T k + 1, row, -1, nm, m, fi, n, L)
    else .inl (4, pt_sk T k, row, 1, 0, m, fi, n, L)
  else if q = 4 then
    if row < 2 then
      if T (pt_sk T k) = 44 then .inl (1, pt_sk T k + 1, row + 1, 1, 0, m, fi, n, L) else .inr (1, pt_sk T k, [])
    else if pc_dt m = 1 ∨ pc_dt m = -1 then .inl (5, k, 0, 1, 0, pt_0, 0, n, L ++ [m]) else .inr (4, fi, [])
  else if q = 6 then
    if T (pt_sk T k) = 47 then .inl (7, pt_sk T k + 1, row, sg, 1, m, fi, n, L) else .inl (3, pt_sk T k, row, 1, 1, m, fi, n, L)
  else if q = 7 then
    if pt_tk T (pt_sk T k) = 48 then
      if pt_vl T (pt_sk T k) < 1 ∨ 24 % pt_vl T (pt_sk T k) ≠ 0 then .inr (3, pt_sk T k, []) else .inl (3, pt_dg T (pt_sk T k), row, 1, 1, m, fi, n, L)
    else .inr (1, pt_sk T k, [])
  else
    if T (pt_sk T k) = -1 then .inr (0, -1, L)
    else if T (pt_sk T k) = 59 then .inl (0, pt_sk T k + 1, 0, 1, 0, pt_0, 0, n + 1, L)
    else .inr (1, pt_sk T k, [])
def pt_run (T : Int → Int) : Nat → pt_S → Option pt_R
  | 0, _ => none
  | f + 1, (q, k, row, sg, nm, m, fi, n, L) =>
    match pt_stp T q k row sg nm m fi n L with
    | .inr r => some r
    | .inl s => pt_run T f s
def pt_Res (T : Int → Int) (s : pt_S) (r : pt_R) : Prop := ∃ f, pt_run T f s = some r
theorem pt_run_mono {T : Int → Int} : ∀ (f : Nat) (s : pt_S) (r : pt_R), pt_run T f s = some r → ∀ g, pt_run T (f + g) s = some r
  | 0, _, _, h, _ => by
    unfold pt_run at h
    exact absurd h (by simp)
  | f + 1, (q, k, row, sg, nm, m, fi, n, L), r, h, g => by
    have e : f + 1 + g = (f + g) + 1 := by omega
    rw [e]
    unfold pt_run at h ⊢
    cases c : pt_stp T q k row sg nm m fi n L with
    | inr z =>
      rw [c] at h
      exact h
    | inl z =>
      rw [c] at h
      exact pt_run_mono f z r h g
theorem pt_Res_det {T : Int → Int} {s : pt_S} {r r' : pt_R} (h : pt_Res T s r) (h' : pt_Res T s r') : r = r' := by
  obtain ⟨f, h⟩ := h
  obtain ⟨g, h'⟩ := h'
  have a := pt_run_mono f s r h g
  have b := pt_run_mono g s r' h' f
  rw [Nat.add_comm g f, a] at b
  exact Option.some.inj b
theorem pt_Res_s {T : Int → Int} {q k row sg nm : Int} {m : pc_M} {fi n : Int} {L : List pc_M} {s : pt_S} {r : pt_R} (h : pt_stp T q k row sg nm m fi n L = .inl s) (h' : pt_Res T s r) : pt_Res T (q, k, row, sg, nm, m, fi, n, L) r := by
  obtain ⟨f, h'⟩ := h'
  refine ⟨f + 1, ?_⟩
  unfold pt_run
  rw [h]
  exact h'
theorem pt_Res_e {T : Int → Int} {q k row sg nm : Int} {m : pc_M} {fi n : Int} {L : List pc_M} {r : pt_R} (h : pt_stp T q k row sg nm m fi n L = .inr r) : pt_Res T (q, k, row, sg, nm, m, fi, n, L) r := by
  refine ⟨1, ?_⟩
  unfold pt_run
  rw [h]
/-- from the one it comes to the other -/
def pt_A (T : Int → Int) (q k row sg nm : Int) (m : pc_M) (q' k' row' sg' nm' : Int) (m' : pc_M) : Prop := True → ∀ (fi n : Int) (L : List pc_M) (r : pt_R), pt_Res T (q', k', row', sg', nm', m', fi, n, L) r → pt_Res T (q, k, row, sg, nm, m, fi, n, L) r
/-- it ends with a fault -/
def pt_X (T : Int → Int) (q k row sg nm : Int) (m : pc_M) (f p : Int) : Prop := True → ∀ (fi n : Int) (L : List pc_M), pt_Res T (q, k, row, sg, nm, m, fi, n, L) (f, p, [])
variable {T : Int → Int} {q k row sg nm q' k' row' sg' nm' q'' k'' row'' sg'' nm'' f p : Int} {m m' m'' : pc_M}
theorem pt_A_rf : pt_A T q k row sg nm m q k row sg nm m := fun _ _ _ _ _ h => h
theorem pt_A_tr (h1 : pt_A T q k row sg nm m q' k' row' sg' nm' m') (h2 : pt_A T q' k' row' sg' nm' m' q'' k'' row'' sg'' nm'' m'') : pt_A T q k row sg nm m q'' k'' row'' sg'' nm'' m'' := fun t fi n L r h => h1 t fi n L r (h2 t fi n L r h)
theorem pt_A_X (h1 : pt_A T q k row sg nm m q' k' row' sg' nm' m') (h2 : pt_X T q' k' row' sg' nm' m' f p) : pt_X T q k row sg nm m f p := fun t fi n L => h1 t fi n L _ (h2 t fi n L)
theorem pt_Ai (h : ∀ (fi n : Int) (L : List pc_M), pt_stp T q k row sg nm m fi n L = .inl (q', k', row', sg', nm', m', fi, n, L)) : pt_A T q k row sg nm m q' k' row' sg' nm' m' := fun _ fi n L _ h' => pt_Res_s (h fi n L) h'
theorem pt_Xi (h : ∀ (fi n : Int) (L : List pc_M), pt_stp T q k row sg nm m fi n L = .inr (f, p, [])) : pt_X T q k row sg nm m f p := fun _ fi n L => pt_Res_e (h fi n L)
theorem pt_1p (h : T (pt_sk T k) = 43) : pt_A T 1 k row sg nm m 2 (pt_sk T k + 1) row 1 0 m := pt_Ai fun fi n L => by
  unfold pt_stp
  rw [if_neg (by decide), if_pos rfl, if_pos h]
theorem pt_1m (h : T (pt_sk T k) = 45) : pt_A T 1 k row sg nm m 2 (pt_sk T k + 1) row (-1) 0 m := pt_Ai fun fi n L => by
  unfold pt_stp
  rw [if_neg (by decide), if_pos rfl, if_neg (by omega), if_pos h]
theorem pt_1n (h : T (pt_sk T k) ≠ 43) (h' : T (pt_sk T k) ≠ 45) : pt_A T 1 k row sg nm m 2 (pt_sk T k) row 1 0 m := pt_Ai fun fi n L => by
  unfold pt_stp
  rw [if_neg (by decide), if_pos rfl, if_neg h, if_neg h']
theorem pt_2t (h : pt_tk T (pt_sk T k) = 48) (h' : nm ≠ 0) : pt_X T 2 k row sg nm m 2 (pt_sk T k) := pt_Xi fun fi n L => by
  unfold pt_stp
  rw [if_neg (by decide), if_neg (by decide), if_pos rfl, if_pos h, if_pos h']
theorem pt_2n (h : pt_tk T (pt_sk T k) = 48) (h' : nm = 0) : pt_A T 2 k row sg nm m 6 (pt_dg T (pt_sk T k)) row sg 1 m := pt_Ai fun fi n L => by
  unfold pt_stp
  rw [if_neg (by decide), if_neg (by decide), if_pos rfl, if_pos h, if_neg (by omega)]
theorem pt_6s (h : T (pt_sk T k) = 47) : pt_A T 6 k row sg nm m 7 (pt_sk T k + 1) row sg 1 m := pt_Ai fun fi n L => by
  unfold pt_stp
  rw [if_neg (by decide), if_neg (by decide), if_neg (by decide), if_neg (by decide), if_neg (by decide), if_pos rfl, if_pos h]
theorem pt_6n (h : T (pt_sk T k) ≠ 47) : pt_A T 6 k row sg nm m 3 (pt_sk T k) row 1 1 m := pt_Ai fun fi n L => by
  unfold pt_stp
  rw [if_neg (by decide), if_neg (by decide), if_neg (by decide), if_neg (by decide), if_neg (by decide), if_pos rfl, if_neg h]
theorem pt_7x (h : pt_tk T (pt_sk T k) ≠ 48) : pt_X T 7 k row sg nm m 1 (pt_sk T k) := pt_Xi fun fi n L => by
  unfold pt_stp
  rw [if_neg (by decide), if_neg (by decide), if_neg (by decide), if_neg (by decide), if_neg (by decide), if_neg (by decide), if_pos rfl, if_neg h]
theorem pt_7p (h : pt_tk T (pt_sk T k) = 48) (h4 : pt_vl T (pt_sk T k) < 1 ∨ 24 % pt_vl T (pt_sk T k) ≠ 0) : pt_X T 7 k row sg nm m 3 (pt_sk T k) := pt_Xi fun fi n L => by
  unfold pt_stp
  rw [if_neg (by decide), if_neg (by decide), if_neg (by decide), if_neg (by decide), if_neg (by decide), if_neg (by decide), if_pos rfl, if_pos h, if_pos h4]
theorem pt_7q (h : pt_tk T (pt_sk T k) = 48) (h4 : 1 ≤ pt_vl T (pt_sk T k) ∧ 24 % pt_vl T (pt_sk T k) = 0) : pt_A T 7 k row sg nm m 3 (pt_dg T (pt_sk T k)) row 1 1 m := pt_Ai fun fi n L => by
  unfold pt_stp
  rw [if_neg (by decide), if_neg (by decide), if_neg (by decide), if_neg (by decide), if_neg (by decide), if_neg (by decide), if_pos rfl, if_pos h, if_neg (fun c => by rcases c with c | c; omega; exact c h4.2)]
theorem pt_2l (h : 120 ≤ pt_tk T (pt_sk T k) ∧ pt_tk T (pt_sk T k) ≤ 122) (h' : pt_get m (3 * row + pt_tk T (pt_sk T k) - 120) = 0) : pt_A T 2 k row sg nm m 3 (pt_sk T k + 1) row 1 nm (pt_set m (3 * row + pt_tk T (pt_sk T k) - 120) sg) := pt_Ai fun fi n L => by
  unfold pt_stp
  rw [if_neg (by decide), if_neg (by decide), if_pos rfl, if_neg (by omega), if_pos h, if_neg (fun c => c h')]
theorem pt_2w (h : 120 ≤ pt_tk T (pt_sk T k) ∧ pt_tk T (pt_sk T k) ≤ 122) (h' : pt_get m (3 * row + pt_tk T (pt_sk T k) - 120) ≠ 0) : pt_X T 2 k row sg nm m 2 (pt_sk T k) := pt_Xi fun fi n L => by
  unfold pt_stp
  rw [if_neg (by decide), if_neg (by decide), if_pos rfl, if_neg (by omega), if_pos h, if_pos h']
theorem pt_2x (h : pt_tk T (pt_sk T k) ≠ 48) (h' : ¬ (120 ≤ pt_tk T (pt_sk T k) ∧ pt_tk T (pt_sk T k) ≤ 122)) : pt_X T 2 k row sg nm m 1 (pt_sk T k) := pt_Xi fun fi n L => by
  unfold pt_stp
  rw [if_neg (by decide), if_neg (by decide), if_pos rfl, if_neg h, if_neg h']
theorem pt_3p (h : T (pt_sk T k) = 43) : pt_A T 3 k row sg nm m 2 (pt_sk T k + 1) row 1 nm m := pt_Ai fun fi n L => by
  unfold pt_stp
  rw [if_neg (by decide), if_neg (by decide), if_neg (by decide), if_pos rfl, if_pos h]
theorem pt_3m (h : T (pt_sk T k) = 45) : pt_A T 3 k row sg nm m 2 (pt_sk T k + 1) row (-1) nm m := pt_Ai fun fi n L => by
  unfold pt_stp
  rw [if_neg (by decide), if_neg (by decide), if_neg (by decide), if_pos rfl, if_neg (by omega), if_pos h]
theorem pt_3n (h : T (pt_sk T k) ≠ 43) (h' : T (pt_sk T k) ≠ 45) : pt_A T 3 k row sg nm m 4 (pt_sk T k) row 1 0 m := pt_Ai fun fi n L => by
  unfold pt_stp
  rw [if_neg (by decide), if_neg (by decide), if_neg (by decide), if_pos rfl, if_neg h, if_neg h']
theorem pt_4c (hr : row < 2) (h : T (pt_sk T k) = 44) : pt_A T 4 k row sg nm m 1 (pt_sk T k + 1) (row + 1) 1 0 m := pt_Ai fun fi n L => by
  unfold pt_stp
  rw [if_neg (by decide), if_neg (by decide), if_neg (by decide), if_neg (by decide), if_pos rfl, if_pos hr, if_pos h]
theorem pt_4x (hr : row < 2) (h : T (pt_sk T k) ≠ 44) : pt_X T 4 k row sg nm m 1 (pt_sk T k) := pt_Xi fun fi n L => by
  unfold pt_stp
  rw [if_neg (by decide), if_neg (by decide), if_neg (by decide), if_neg (by decide), if_pos rfl, if_pos hr, if_neg h]
theorem pt_4d {fi n : Int} {L : List pc_M} {r : pt_R} (hr : ¬ row < 2) (h : pc_dt m = 1 ∨ pc_dt m = -1) (h' : pt_Res T (5, k, 0, 1, 0, pt_0, 0, n, L ++ [m]) r) : pt_Res T (4, k, row, sg, nm, m, fi, n, L) r := pt_Res_s (by
  unfold pt_stp
  rw [if_neg (by decide), if_neg (by decide), if_neg (by decide), if_neg (by decide), if_pos rfl, if_neg hr, if_pos h]) h'
theorem pt_4f {fi n : Int} {L : List pc_M} (hr : ¬ row < 2) (h : ¬ (pc_dt m = 1 ∨ pc_dt m = -1)) : pt_Res T (4, k, row, sg, nm, m, fi, n, L) (4, fi, []) := pt_Res_e (by
  unfold pt_stp
  rw [if_neg (by decide), if_neg (by decide), if_neg (by decide), if_neg (by decide), if_pos rfl, if_neg hr, if_neg h])
/-- ahead of a triple, behind one -/
def pt_Q0 (T : Int → Int) (k n : Int) (L : List pc_M) (r : pt_R) : Prop := pt_Res T (0, k, 0, 1, 0, pt_0, 0, n, L) r
def pt_Q5 (T : Int → Int) (k n : Int) (L : List pc_M) (r : pt_R) : Prop := pt_Res T (5, k, 0, 1, 0, pt_0, 0, n, L) r
def pt_b0 (t : Int) : Prop := t = 48 ∨ t = 43 ∨ t = 45 ∨ (120 ≤ t ∧ t ≤ 122)
theorem pt_0x {n : Int} {L : List pc_M} (h : ¬ pt_b0 (pt_tk T (pt_sk T k))) : pt_Q0 T k n L (1, pt_sk T k, []) := pt_Res_e (by
  unfold pt_stp
  unfold pt_b0 at h
  rw [if_pos rfl, if_neg h])
theorem pt_0m {n : Int} {L : List pc_M} (h : pt_b0 (pt_tk T (pt_sk T k))) (hn : 12 ≤ n) : pt_Q0 T k n L (5, pt_sk T k, []) := pt_Res_e (by
  unfold pt_stp
  unfold pt_b0 at h
  rw [if_pos rfl, if_pos h, if_pos hn])
theorem pt_0g {n : Int} {L : List pc_M} {r : pt_R} (h : pt_b0 (pt_tk T (pt_sk T k))) (hn : n < 12) (h' : pt_Res T (1, pt_sk T k, 0, 1, 0, pt_0, pt_sk T k, n, L) r) : pt_Q0 T k n L r := pt_Res_s (by
  unfold pt_stp
  unfold pt_b0 at h
  rw [if_pos rfl, if_pos h, if_neg (by omega)]) h'
theorem pt_5e {n : Int} {L : List pc_M} (h : T (pt_sk T k) = -1) : pt_Q5 T k n L (0, -1, L) := pt_Res_e (by
  unfold pt_stp
  rw [if_neg (by decide), if_neg (by decide), if_neg (by decide), if_neg (by decide), if_neg (by decide), if_neg (by decide), if_neg (by decide), if_pos h])
theorem pt_5s {n : Int} {L : List pc_M} {r : pt_R} (h : T (pt_sk T k) = 59) (h' : pt_Q0 T (pt_sk T k + 1) (n + 1) L r) : pt_Q5 T k n L r := pt_Res_s (by
  unfold pt_stp
  rw [if_neg (by decide), if_neg (by decide), if_neg (by decide), if_neg (by decide), if_neg (by decide), if_neg (by decide), if_neg (by decide), if_neg (by omega), if_pos h]) h'
theorem pt_5x {n : Int} {L : List pc_M} (h : T (pt_sk T k) ≠ -1) (h' : T (pt_sk T k) ≠ 59) : pt_Q5 T k n L (1, pt_sk T k, []) := pt_Res_e (by
  unfold pt_stp
  rw [if_neg (by decide), if_neg (by decide), if_neg (by decide), if_neg (by decide), if_neg (by decide), if_neg (by decide), if_neg (by decide), if_neg h, if_neg h'])
theorem pt_dg_gt {T : Int → Int} (h : pt_lim T) {k : Int} (hk : 0 ≤ k) : 48 ≤ T k ∧ T k ≤ 57 → k + 1 ≤ pt_dg T k := fun e => by
  rw [pt_dg_y h hk e]
  exact pt_dg_ge T (k + 1)
end PT
