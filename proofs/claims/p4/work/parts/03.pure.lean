/-! ABSTRACT RUNS, the pure side: an int is known by its bounds (and perhaps as a named number plus a constant), a reference by its place, an array of numbers by its length and the bounds of all it holds. -/
section AXP
abbrev ax_I : Type := Int × Int
abbrev ax_N : Type := (Int × Int) × Option (Nat × Int)
/-- an int, a long, a reference (none: null; 0: the script; k + 1: place k of the world) -/
abbrev ax_V : Type := ax_N ⊕ (ax_I ⊕ Option Nat)
/-- where a value on the stack was read: a local, a field of a place, a fixed number of the run -/
abbrev ax_O : Type := Option (Nat ⊕ ((Nat × Nat) ⊕ Nat))
abbrev ax_L : Type := List (Nat × (ax_V × Option Nat))
abbrev ax_K : Type := List (ax_V × ax_O)
abbrev ax_C : Type := (Nat × List ax_V) ⊕ ((FieldType × Nat) × (ax_I ⊕ (ax_I ⊕ List (Option Nat))))
abbrev ax_S : Type := Nat × (ax_L × (ax_K × (List ax_C × (List ax_V × (Nat × Nat)))))
abbrev ax_R : Type := Option ax_V × (List ax_V × List ax_C)

def ax_all2 {α β : Type} (R : α → β → Prop) : List α → List β → Prop
  | [], [] => True
  | a :: l, b :: k => R a b ∧ ax_all2 R l k
  | _, _ => False
theorem ax_all2_len {α β : Type} {R : α → β → Prop} : ∀ {l : List α} {k : List β}, ax_all2 R l k → l.length = k.length
  | [], [], _ => rfl
  | _ :: _, _ :: _, h => by simp [ax_all2_len h.2]
  | [], _ :: _, h => h.elim
  | _ :: _, [], h => h.elim
theorem ax_all2_get {α β : Type} {R : α → β → Prop} : ∀ {l : List α} {k : List β} {i : Nat} {a : α}, ax_all2 R l k → l[i]? = some a → ∃ b, k[i]? = some b ∧ R a b
  | a :: l, b :: k, 0, x, h, e => ⟨b, rfl, by simp at e; subst e; exact h.1⟩
  | a :: l, b :: k, i + 1, x, h, e => by
    obtain ⟨y, h1, h2⟩ := ax_all2_get (i := i) (a := x) h.2 (by simpa using e)
    exact ⟨y, by simpa using h1, h2⟩
  | [], [], _, _, _, e => by simp at e
  | [], _ :: _, _, _, h, _ => h.elim
  | _ :: _, [], _, _, h, _ => h.elim
theorem ax_all2_set {α β : Type} {R : α → β → Prop} : ∀ {l : List α} {k : List β} {i : Nat} {a : α} {b : β}, ax_all2 R l k → R a b → ax_all2 R (l.set i a) (k.set i b)
  | _ :: _, _ :: _, 0, _, _, h, r => ⟨r, h.2⟩
  | _ :: _, _ :: _, i + 1, _, _, h, r => ⟨h.1, ax_all2_set (i := i) h.2 r⟩
  | [], [], _, _, _, _, _ => trivial
  | [], _ :: _, _, _, _, h, _ => h.elim
  | _ :: _, [], _, _, _, h, _ => h.elim
theorem ax_all2_setL {α β : Type} {R : α → β → Prop} {l : List α} {k : List β} {i : Nat} {a : α} {b : β} (h : ax_all2 R l k) (e : k[i]? = some b) (r : R a b) : ax_all2 R (l.set i a) k := by
  have h1 := ax_all2_set (i := i) h r
  rwa [show k.set i b = k from by
    apply List.ext_getElem?
    intro j
    by_cases hj : i = j
    · subst hj
      rw [List.getElem?_set_self' , e]
      rfl
    · rw [List.getElem?_set_ne hj]] at h1
theorem ax_all2_app {α β : Type} {R : α → β → Prop} : ∀ {l l2 : List α} {k k2 : List β}, ax_all2 R l k → ax_all2 R l2 k2 → ax_all2 R (l ++ l2) (k ++ k2)
  | [], _, [], _, _, h => h
  | _ :: _, _, _ :: _, _, h, h2 => ⟨h.1, ax_all2_app h.2 h2⟩
  | [], _, _ :: _, _, h, _ => h.elim
  | _ :: _, _, [], _, h, _ => h.elim
theorem ax_all2_mono {α β : Type} {R S : α → β → Prop} (f : ∀ a b, R a b → S a b) : ∀ {l : List α} {k : List β}, ax_all2 R l k → ax_all2 S l k
  | [], [], _ => trivial
  | _ :: _, _ :: _, h => ⟨f _ _ h.1, ax_all2_mono f h.2⟩
  | [], _ :: _, h => h.elim
  | _ :: _, [], h => h.elim
theorem ax_all2_filter {α β : Type} {R : α → β → Prop} {p : α → Bool} {q : β → Bool} (f : ∀ a b, R a b → p a = q b) : ∀ {l : List α} {k : List β}, ax_all2 R l k → ax_all2 R (l.filter p) (k.filter q)
  | [], [], _ => trivial
  | a :: l, b :: k, h => by
    have e := f a b h.1
    have h2 := ax_all2_filter f h.2
    simp only [List.filter_cons, e]
    split
    · exact ⟨h.1, h2⟩
    · exact h2
  | [], _ :: _, h => h.elim
  | _ :: _, [], h => h.elim
theorem ax_all2_mapL {α β γ : Type} {R : α → β → Prop} {S : γ → β → Prop} (g : α → γ) (f : ∀ a b, R a b → S (g a) b) : ∀ {l : List α} {k : List β}, ax_all2 R l k → ax_all2 S (l.map g) k
  | [], [], _ => trivial
  | _ :: _, _ :: _, h => ⟨f _ _ h.1, ax_all2_mapL g f h.2⟩
  | [], _ :: _, h => h.elim
  | _ :: _, [], h => h.elim
theorem ax_all2_rev {α β : Type} {R : α → β → Prop} : ∀ {l : List α} {k : List β}, ax_all2 R l k → ax_all2 R l.reverse k.reverse
  | [], [], _ => trivial
  | _ :: _, _ :: _, h => by
    rw [List.reverse_cons, List.reverse_cons]
    exact ax_all2_app (ax_all2_rev h.2) ⟨h.1, trivial⟩
  | [], _ :: _, h => h.elim
  | _ :: _, [], h => h.elim
theorem ax_all2_take {α β : Type} {R : α → β → Prop} : ∀ {l : List α} {k : List β} (n : Nat), ax_all2 R l k → ax_all2 R (l.take n) (k.take n)
  | [], [], n, _ => by simp [ax_all2]
  | _ :: _, _ :: _, 0, _ => trivial
  | _ :: _, _ :: _, n + 1, h => ⟨h.1, ax_all2_take n h.2⟩
  | [], _ :: _, _, h => h.elim
  | _ :: _, [], _, h => h.elim
theorem ax_all2_drop {α β : Type} {R : α → β → Prop} : ∀ {l : List α} {k : List β} (n : Nat), ax_all2 R l k → ax_all2 R (l.drop n) (k.drop n)
  | [], [], n, _ => by simp [ax_all2]
  | _ :: _, _ :: _, 0, h => h
  | _ :: _, _ :: _, n + 1, h => ax_all2_drop n h.2
  | [], _ :: _, _, h => h.elim
  | _ :: _, [], _, h => h.elim

def ax_get {α : Type} (i : Nat) : List (Nat × α) → Option α
  | [] => none
  | q :: r => if q.1 = i then some q.2 else ax_get i r
theorem ax_get_mem {α : Type} {i : Nat} {v : α} : ∀ {l : List (Nat × α)}, ax_get i l = some v → (i, v) ∈ l
  | [], h => by simp [ax_get] at h
  | q :: r, h => by
    unfold ax_get at h
    split at h
    · rename_i e
      cases h
      subst e
      exact List.mem_cons_self
    · exact List.mem_cons_of_mem _ (ax_get_mem h)
theorem ax_get_ok {α β : Type} {P : α → β → Prop} {i : Nat} {a : α} : ∀ {l : List (Nat × α)} {k : List (Nat × β)}, ax_all2 (fun q r => q.1 = r.1 ∧ P q.2 r.2) l k → ax_get i l = some a → ∃ v, ax_get i k = some v ∧ P a v
  | [], [], _, h => by simp [ax_get] at h
  | q :: l, r :: k, h, e => by
    unfold ax_get at e ⊢
    split at e
    · rename_i e1
      cases e
      refine ⟨r.2, ?_, h.1.2⟩
      rw [if_pos (by rw [← h.1.1]; exact e1)]
    · rename_i e1
      obtain ⟨v, h1, h2⟩ := ax_get_ok h.2 e
      refine ⟨v, ?_, h2⟩
      rw [if_neg (by rw [← h.1.1]; exact e1)]
      exact h1
  | [], _ :: _, h, _ => h.elim
  | _ :: _, [], h, _ => h.elim

/-- the bounds, where they are an int's; else nothing is known -/
def ax_fitN (lo hi : Int) (y : Option (Nat × Int)) : ax_N := if -2147483648 ≤ lo ∧ hi ≤ 2147483647 then ((lo, hi), y) else ((-2147483648, 2147483647), none)
def ax_topN : ax_N := ((-2147483648, 2147483647), none)
def ax_topL : ax_I := (-9223372036854775808, 9223372036854775807)
def ax_sy (a b : ax_N) : Option (Nat × Int) := match a.2 with
  | some (g, c) => if b.1.1 = b.1.2 then some (g, c + b.1.1) else none
  | none => match b.2 with
    | some (g, c) => if a.1.1 = a.1.2 then some (g, a.1.1 + c) else none
    | none => none
def ax_sy2 (a b : ax_N) : Option (Nat × Int) := match a.2 with
  | some (g, c) => if b.1.1 = b.1.2 then some (g, c - b.1.1) else none
  | none => none
def ax_add (a b : ax_N) : ax_N := ax_fitN (a.1.1 + b.1.1) (a.1.2 + b.1.2) (ax_sy a b)
def ax_sub (a b : ax_N) : ax_N := ax_fitN (a.1.1 - b.1.2) (a.1.2 - b.1.1) (ax_sy2 a b)
def ax_mul (a b : ax_N) : ax_N := ax_fitN (min (min (a.1.1 * b.1.1) (a.1.1 * b.1.2)) (min (a.1.2 * b.1.1) (a.1.2 * b.1.2))) (max (max (a.1.1 * b.1.1) (a.1.1 * b.1.2)) (max (a.1.2 * b.1.1) (a.1.2 * b.1.2))) none
def ax_neg (a : ax_N) : ax_N := ax_fitN (-a.1.2) (-a.1.1) none
def ax_div (a b : ax_N) : Option ax_N := if 1 ≤ b.1.1 then (if 0 ≤ a.1.1 then some (ax_fitN 0 (a.1.2 / b.1.1) none) else some (ax_fitN (min a.1.1 0) (max a.1.2 0) none)) else if b.1.2 < 0 then some ax_topN else none
def ax_rem (a b : ax_N) : Option ax_N := if 1 ≤ b.1.1 then (if 0 ≤ a.1.1 then (if a.1.1 = a.1.2 ∧ b.1.1 = b.1.2 then some ((a.1.1 % b.1.1, a.1.1 % b.1.1), none) else some (ax_fitN 0 (min a.1.2 (b.1.2 - 1)) none)) else some (ax_fitN (-(b.1.2 - 1)) (b.1.2 - 1) none)) else if b.1.2 < 0 then some ax_topN else none
def ax_and (a b : ax_N) : ax_N := if 0 ≤ b.1.1 then ((0, b.1.2), none) else if 0 ≤ a.1.1 then ((0, a.1.2), none) else ax_topN
def ax_c32 (v : Int32) : ax_V := .inl ((v.toInt, v.toInt), none)

def ax_nok (γ : Nat → Int) (a : ax_N) (x : Int) : Prop := (a.1.1 ≤ x ∧ x ≤ a.1.2) ∧ ∀ g c, a.2 = some (g, c) → x = γ g + c
theorem ax_lt (x : Int32) : -2147483648 ≤ x.toInt ∧ x.toInt ≤ 2147483647 := by
  have h1 := x.le_toInt
  have h2 := x.toInt_lt
  omega
theorem ax_ltL (x : Int64) : -9223372036854775808 ≤ x.toInt ∧ x.toInt ≤ 9223372036854775807 := by
  have h1 := x.le_toInt
  have h2 := x.toInt_lt
  omega
theorem ax_topN_ok (γ : Nat → Int) (x : Int32) : ax_nok γ ax_topN x.toInt := ⟨ax_lt x, fun _ _ h => by cases h⟩
theorem ax_c_ok (γ : Nat → Int) (v : Int32) : ax_nok γ ((v.toInt, v.toInt), none) v.toInt := ⟨⟨Int.le_refl _, Int.le_refl _⟩, fun _ _ h => by cases h⟩
theorem ax_bmod {z : Int} (h1 : -2147483648 ≤ z) (h2 : z ≤ 2147483647) : z.bmod (2 ^ 32) = z := by
  have e : ((2 ^ 32 : Nat) : Int) = 4294967296 := by decide
  unfold Int.bmod
  simp only [e]
  split <;> omega
theorem ax_fitN_ok {γ : Nat → Int} {lo hi : Int} {y : Option (Nat × Int)} {x : Int32} {z : Int} (hz : x.toInt = z.bmod (2 ^ 32)) (h : lo ≤ z ∧ z ≤ hi) (hy : ∀ g c, y = some (g, c) → z = γ g + c) : ax_nok γ (ax_fitN lo hi y) x.toInt := by
  unfold ax_fitN
  split
  · rename_i hf
    rw [hz, ax_bmod (by omega) (by omega)]
    exact ⟨h, hy⟩
  · exact ax_topN_ok γ x
theorem ax_add_ok {γ : Nat → Int} {a b : ax_N} {x y : Int32} (ha : ax_nok γ a x.toInt) (hb : ax_nok γ b y.toInt) : ax_nok γ (ax_add a b) (x + y).toInt := by
  obtain ⟨⟨a1, a2⟩, a3⟩ := ha
  obtain ⟨⟨b1, b2⟩, b3⟩ := hb
  refine ax_fitN_ok (z := x.toInt + y.toInt) (Int32.toInt_add x y) ⟨by omega, by omega⟩ ?_
  intro g c h
  unfold ax_sy at h
  split at h
  · rename_i g1 c1 e
    split at h
    · have := a3 _ _ e
      simp at h
      obtain ⟨h1, h2⟩ := h
      subst h1
      omega
    · cases h
  · split at h
    · rename_i g1 c1 e
      split at h
      · have := b3 _ _ e
        simp at h
        obtain ⟨h1, h2⟩ := h
        subst h1
        omega
      · cases h
    · cases h
theorem ax_sub_ok {γ : Nat → Int} {a b : ax_N} {x y : Int32} (ha : ax_nok γ a x.toInt) (hb : ax_nok γ b y.toInt) : ax_nok γ (ax_sub a b) (x - y).toInt := by
  obtain ⟨⟨a1, a2⟩, a3⟩ := ha
  obtain ⟨⟨b1, b2⟩, b3⟩ := hb
  refine ax_fitN_ok (z := x.toInt - y.toInt) (Int32.toInt_sub x y) ⟨by omega, by omega⟩ ?_
  intro g c h
  unfold ax_sy2 at h
  split at h
  · rename_i g1 c1 e
    split at h
    · have := a3 _ _ e
      simp at h
      obtain ⟨h1, h2⟩ := h
      subst h1
      omega
    · cases h
  · cases h
theorem ax_mulk {lo hi t k : Int} (h1 : lo ≤ t) (h2 : t ≤ hi) : min (lo * k) (hi * k) ≤ t * k ∧ t * k ≤ max (lo * k) (hi * k) := by
  by_cases hk : 0 ≤ k
  · have e1 := Int.mul_le_mul_of_nonneg_right h1 hk
    have e2 := Int.mul_le_mul_of_nonneg_right h2 hk
    omega
  · have e1 := Int.mul_le_mul_of_nonpos_right h1 (by omega : k ≤ 0)
    have e2 := Int.mul_le_mul_of_nonpos_right h2 (by omega : k ≤ 0)
    omega
theorem ax_mul_ok {γ : Nat → Int} {a b : ax_N} {x y : Int32} (ha : ax_nok γ a x.toInt) (hb : ax_nok γ b y.toInt) : ax_nok γ (ax_mul a b) (x * y).toInt := by
  obtain ⟨⟨a1, a2⟩, -⟩ := ha
  obtain ⟨⟨b1, b2⟩, -⟩ := hb
  refine ax_fitN_ok (z := x.toInt * y.toInt) (Int32.toInt_mul x y) ?_ (fun _ _ h => by cases h)
  have h1 := ax_mulk (k := y.toInt) a1 a2
  have h2 := ax_mulk (k := a.1.1) b1 b2
  have h3 := ax_mulk (k := a.1.2) b1 b2
  rw [Int.mul_comm b.1.1, Int.mul_comm b.1.2, Int.mul_comm y.toInt] at h2 h3
  omega
theorem ax_neg_ok {γ : Nat → Int} {a : ax_N} {x : Int32} (ha : ax_nok γ a x.toInt) : ax_nok γ (ax_neg a) (-x).toInt := by
  obtain ⟨⟨a1, a2⟩, -⟩ := ha
  exact ax_fitN_ok (z := -x.toInt) (Int32.toInt_neg x) ⟨by omega, by omega⟩ (fun _ _ h => by cases h)
end AXP
