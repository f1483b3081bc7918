/-! THE PURE MACHINE: what its states say of real ones -/
section PMM
def pm_ok (R : List Nat) (a : pm_V) (v : Value) : Prop := match a, v with
  | .inl a, .int x => x.toInt = a
  | .inr (.inl a), .long x => x.toInt = a
  | .inr (.inr none), .null => True
  | .inr (.inr (some k)), .ref q => R[k]? = some q
  | _, _ => False
theorem pm_ok_i {R : List Nat} {a : Int} {v : Value} (h : pm_ok R (.inl a) v) : ∃ x, v = .int x ∧ x.toInt = a := by
  cases v with
  | int x => exact ⟨x, rfl, h⟩
  | _ => exact False.elim h
theorem pm_ok_l {R : List Nat} {a : Int} {v : Value} (h : pm_ok R (.inr (.inl a)) v) : ∃ x, v = .long x ∧ x.toInt = a := by
  cases v with
  | long x => exact ⟨x, rfl, h⟩
  | _ => exact False.elim h
theorem pm_ok_n {R : List Nat} {v : Value} (h : pm_ok R (.inr (.inr none)) v) : v = .null := by
  cases v with
  | null => rfl
  | _ => exact False.elim h
theorem pm_ok_r {R : List Nat} {k : Nat} {v : Value} (h : pm_ok R (.inr (.inr (some k))) v) : ∃ q, v = .ref q ∧ R[k]? = some q := by
  cases v with
  | ref q => exact ⟨q, rfl, h⟩
  | _ => exact False.elim h
theorem pm_ok_cat {R : List Nat} {a : pm_V} {v : Value} (h : pm_ok R a v) : pm_cat a = v.category := by
  rcases a with a | a | (_ | a)
  · obtain ⟨x, rfl, -⟩ := pm_ok_i h; rfl
  · obtain ⟨x, rfl, -⟩ := pm_ok_l h; rfl
  · cases pm_ok_n h; rfl
  · obtain ⟨x, rfl, -⟩ := pm_ok_r h; rfl
theorem pm_words_ok {R : List Nat} : ∀ {st : List pm_V} {cs : List Value}, ax_all2 (pm_ok R) st cs → pm_words st = (cs.map fun v => v.category).sum
  | [], [], _ => rfl
  | q :: st, v :: cs, h => by
    have h1 := pm_words_ok h.2
    unfold pm_words at h1 ⊢
    simp only [List.map_cons, List.sum_cons]
    rw [h1, pm_ok_cat h.1]
  | [], _ :: _, h => h.elim
  | _ :: _, [], h => h.elim
/-- a field of place q: a number of the heap, or a fixed reference -/
def pm_fok (R : List Nat) (σ : pm_H) (q k : Nat) (f : Option (Option Nat)) (v : Value) : Prop := match f with
  | none => ∃ x, v = .int x ∧ x.toInt = σ q (k : Int)
  | some r => pm_ok R (.inr (.inr r)) v
def pm_cok (R : List Nat) (tys : List (ClassId × FieldType)) (σ : pm_H) (q : Nat) (c : pm_C) (w : va_E) : Prop := match c with
  | .inl (ci, fs) => ∃ vs : List Value, w = .inr (ci, vs) ∧ fs.length = vs.length ∧ ∀ k f v, fs[k]? = some f → vs[k]? = some v → pm_fok R σ q k f v
  | .inr ((ty, n), none) => if ty = .long then ∃ (cA : ClassId) (f : Nat → Int64), w = .inl (cA, n, .inr (.inl f)) ∧ (∃ t0 : Nat, tys[t0]? = some (cA, ty)) ∧ ∀ j : Nat, j < n → (f j).toInt = σ q (j : Int)
      else ∃ (cA : ClassId) (f : Nat → Int32), w = .inl (cA, n, .inl f) ∧ (∃ t0 : Nat, tys[t0]? = some (cA, ty)) ∧ ∀ j : Nat, j < n → (f j).toInt = σ q (j : Int)
  | .inr ((ty, n), some rs) => ∃ (cA : ClassId) (f : Nat → Option Nat), w = .inl (cA, n, .inr (.inr (.inr (.inr f)))) ∧ (∃ t0 : Nat, tys[t0]? = some (cA, ty)) ∧ ∀ j : Nat, j < n → ∃ r, rs[j]? = some r ∧ ax_rok R r (f j)
/-- script, world, static arrays -/
def pm_RR (b : Nat) (ws : va_W) (sa : List Nat) : List Nat := b :: (ws.map (fun q => q.1) ++ sa)
def pm_cst (σ : pm_H) : Prop := ∀ (k : Nat) (q : (String × String) × (FieldType × List Int)), pm_ss[k]? = some q → ∀ j : Nat, j < q.2.2.length → σ (pm_sh.length + 1 + k) (j : Int) = q.2.2.getD j 0
def pm_hps (b : Nat) (sa wa : List Nat) (L : Nat) (xs : Nat → Int32) (σ : pm_H) (ws : va_W) (tys : List (ClassId × FieldType)) : Prop :=
  ws.length = pm_sh.length ∧ (∀ (k : Nat) (c : pm_C) (w : Nat × va_E), pm_sh[k]? = some c → ws[k]? = some w → pm_cok (pm_RR b ws sa) tys σ (k + 1) c w.2) ∧ pm_cst σ ∧ (0 < L → ∀ j : Nat, j < L - 1 → σ 0 (j : Int) = (xs j).toInt) ∧ ws.map (fun q => q.1) = wa
def pm_lvs (R : List Nat) (lv : pm_L) (cv : List (Nat × Value)) : Prop := ∀ (i : Nat) (a : pm_V), lv[i]? = some (some a) → ∃ v, (i, v) ∈ cv ∧ pm_ok R a v
def pm_M (b : Nat) (sa wa : List Nat) (L : Nat) (xs : Nat → Int32) (lv : pm_L) (st : List pm_V) (σ : pm_H) (cv : List (Nat × Value)) (cs : List Value) (ws : va_W) (tys : List (ClassId × FieldType)) : Prop :=
  pm_lvs (pm_RR b ws sa) lv cv ∧ ax_all2 (pm_ok (pm_RR b ws sa)) st cs ∧ pm_hps b sa wa L xs σ ws tys
/-- the value that stands at place j of a static array -/
def pm_tv (ty : FieldType) (z : Int) : Value := match ty with
  | .long => .long (Int64.ofInt z)
  | _ => .int (Int32.ofInt z)
/-- the static arrays: where they lie, what they hold; nobody writes them -/
def pm_St (sa : List Nat) (A : Nat → Prop) (U : State) (H : Heap) : Prop := sa.length = pm_ss.length ∧ ∀ (k : Nat) (q : (String × String) × (FieldType × List Int)) (t : Nat), pm_ss[k]? = some q → sa[k]? = some t → va_Z "SymmetryHouse" q.1.1 q.1.2 (.ref t) A U H ∧ va_T q.2.1 t q.2.2.length (fun j => pm_tv q.2.1 (q.2.2.getD j 0)) A U H
theorem pm_St.moved {sa : List Nat} {A : Nat → Prop} {u U : State} {H : Heap} (hvm : u.vm.Alike U.vm) (h : pm_St sa A u H) : pm_St sa A U H := ⟨h.1, fun k q t h1 h2 => ⟨va_Z.moved hvm (h.2 k q t h1 h2).1, va_T.moved hvm (h.2 k q t h1 h2).2⟩⟩
theorem pm_St.kept {sa : List Nat} {A : Nat → Prop} {U : State} {H H1 : Heap} (h : pm_St sa A U H) (hq : ∀ a : Nat, a < H.size → ¬ A a → H1[a]? = H[a]?) : pm_St sa A U H1 := ⟨h.1, fun k q t h1 h2 => ⟨(h.2 k q t h1 h2).1.kept hq, (h.2 k q t h1 h2).2.kept hq⟩⟩
theorem pm_St.narrow {sa : List Nat} {A B : Nat → Prop} {U : State} {H : Heap} (h : pm_St sa A U H) (hAB : ∀ q, B q → A q) : pm_St sa B U H := ⟨h.1, fun k q t h1 h2 => ⟨(h.2 k q t h1 h2).1.narrow hAB, (h.2 k q t h1 h2).2.narrow hAB⟩⟩
/-- what holds of a method that runs -/
def pm_X (p : Program) (R : Room) (s : State) (m : MethodId) (args : Array Value) (c : Code) (A : Nat → Prop) (b own nL L1 L d : Nat) (cc : ByteArray) (xs : Nat → Int32) (sa : List Nat) (cn : Nat × Nat) : Prop :=
  (p.tables.exec = Jvm.exec ∧ c.code = cc ∧ c.maxLocals = nL ∧ s.vm.findClass (ax_nm own) = some m.cls ∧ ∀ w ∈ ax_W, w.before args s = true) ∧
  (∀ w ∈ ax_nest, va_Nw w s) ∧ (∀ w ∈ pm_nest, va_Nw w s) ∧ va_AO RX4 s ∧ (∀ q, s.heap.size ≤ q → A q) ∧
  (cn.1 ≤ R.cells ∧ cn.2 ≤ R.slots ∧ d + 1 ≤ R.frames ∧ 40 * d + 40 ≤ R.locals) ∧ pm_St sa A s s.heap ∧
  (0 < L1 → L1 = L ∧ va_X b (L - 1) xs s s.heap ∧ b < s.heap.size ∧ ¬ A b)
/-- from every real state that the pure one speaks of, the machine comes to Q -/
def pm_G (p : Program) (l : Launch) (e : Env) (R : Room) (s : State) (m : MethodId) (args : Array Value) (below : List Frame) (meth : Method) (c : Code) (Q : State → Prop) (D : va_G) (A : Nat → Prop) (b nL L : Nat) (xs : Nat → Int32) (sa wa : List Nat) (cn : Nat × Nat) (S : pm_S) : Prop :=
  ∀ (cv : List (Nat × Value)) (cs : List Value) (ws : va_W) (tys : List (ClassId × FieldType)) (ls : Array Slot) (H : Heap) (locs : List Loc),
    pm_M b sa wa L xs S.2.1 S.2.2.1 S.2.2.2 cv cs ws tys → lv_has ls nL cv → va_K D vwCl tys s → va_P D vwCl ws H → va_D A ws → va_S A s.heap H locs →
    W p l e R s m args below meth c H locs cn.1 cn.2 Q (F0 m S.1 ls cs)
theorem pm_i32 (x : Int32) : Int32.ofInt x.toInt = x := Int32.ofInt_toInt x
theorem pm_w32 {x : Int32} {z : Int} (h : x.toInt = z.bmod (2 ^ 32)) : x.toInt = w32 z := by
  rw [h]
  unfold w32 Int.bmod
  have e : ((2 ^ 32 : Nat) : Int) = 4294967296 := by decide
  simp only [e]
  split <;> omega
theorem pm_w64 {x : Int64} {z : Int} (h : x.toInt = z.bmod (2 ^ 64)) : x.toInt = w64 z := by
  rw [h]
  unfold w64 Int.bmod
  have e : ((2 ^ 64 : Nat) : Int) = 18446744073709551616 := by decide
  simp only [e]
  split <;> omega
theorem pm_w8 {x : Int8} {z : Int} (h : x.toInt = z.bmod (2 ^ 8)) : x.toInt = w8 z := by
  rw [h]
  unfold w8 Int.bmod
  have e : ((2 ^ 8 : Nat) : Int) = 256 := by decide
  simp only [e]
  split <;> omega
end PMM
