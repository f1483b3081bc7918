/-! ABSTRACT RUNS: what an abstract state says of a real one -/
section AXM
def ax_ok (γ : Nat → Int) (R : List Nat) (a : ax_V) (v : Value) : Prop := match a, v with
  | .inl a, .int x => ax_nok γ a x.toInt
  | .inr (.inl a), .long x => a.1 ≤ x.toInt ∧ x.toInt ≤ a.2
  | .inr (.inr none), .null => True
  | .inr (.inr (some k)), .ref q => R[k]? = some q
  | _, _ => False
theorem ax_ok_i {γ : Nat → Int} {R : List Nat} {a : ax_N} {v : Value} (h : ax_ok γ R (.inl a) v) : ∃ x, v = .int x ∧ ax_nok γ a x.toInt := by
  cases v with
  | int x => exact ⟨x, rfl, h⟩
  | _ => exact False.elim h
theorem ax_ok_l {γ : Nat → Int} {R : List Nat} {a : ax_I} {v : Value} (h : ax_ok γ R (.inr (.inl a)) v) : ∃ x, v = .long x ∧ a.1 ≤ x.toInt ∧ x.toInt ≤ a.2 := by
  cases v with
  | long x => exact ⟨x, rfl, h⟩
  | _ => exact False.elim h
theorem ax_ok_n {γ : Nat → Int} {R : List Nat} {v : Value} (h : ax_ok γ R (.inr (.inr none)) v) : v = .null := by
  cases v with
  | null => rfl
  | _ => exact False.elim h
theorem ax_ok_r {γ : Nat → Int} {R : List Nat} {k : Nat} {v : Value} (h : ax_ok γ R (.inr (.inr (some k))) v) : ∃ q, v = .ref q ∧ R[k]? = some q := by
  cases v with
  | ref q => exact ⟨q, rfl, h⟩
  | _ => exact False.elim h
theorem ax_ok_cat {γ : Nat → Int} {R : List Nat} {a : ax_V} {v : Value} (h : ax_ok γ R a v) : ax_cat a = v.category := by
  rcases a with a | a | (_ | a)
  · obtain ⟨x, rfl, -⟩ := ax_ok_i h; rfl
  · obtain ⟨x, rfl, -⟩ := ax_ok_l h; rfl
  · cases ax_ok_n h; rfl
  · obtain ⟨x, rfl, -⟩ := ax_ok_r h; rfl
/-- more places: what was said stays -/
theorem ax_ok_more {γ : Nat → Int} {R R' : List Nat} (hR : ∀ (k q : Nat), R[k]? = some q → R'[k]? = some q) {a : ax_V} {v : Value} (h : ax_ok γ R a v) : ax_ok γ R' a v := by
  rcases a with a | a | (_ | a)
  · obtain ⟨x, rfl, h1⟩ := ax_ok_i h; exact h1
  · obtain ⟨x, rfl, h1⟩ := ax_ok_l h; exact h1
  · cases ax_ok_n h; exact trivial
  · obtain ⟨x, rfl, h1⟩ := ax_ok_r h; exact hR _ _ h1
def ax_rok (R : List Nat) (r x : Option Nat) : Prop := match r, x with
  | none, none => True
  | some k, some a => R[k]? = some a
  | _, _ => False
theorem ax_rok_more {R R' : List Nat} (hR : ∀ (k q : Nat), R[k]? = some q → R'[k]? = some q) {r x : Option Nat} (h : ax_rok R r x) : ax_rok R' r x := by
  cases r <;> cases x <;> first | trivial | exact False.elim h | exact hR _ _ h
theorem ax_rok_v {γ : Nat → Int} {R : List Nat} {r x : Option Nat} (h : ax_rok R r x) : ax_ok γ R (.inr (.inr r)) (va_rf x) := by
  cases r <;> cases x <;> first | trivial | exact False.elim h | exact h
def ax_cok (γ : Nat → Int) (R : List Nat) (tys : List (ClassId × FieldType)) (c : ax_C) (w : va_E) : Prop := match c, w with
  | .inl (ci, fs), .inr (cj, vs) => ci = cj ∧ ax_all2 (ax_ok γ R) fs vs
  | .inr ((ty, n), .inl iv), .inl (cA, n', .inl f) => n = n' ∧ (∃ t0 : Nat, tys[t0]? = some (cA, ty)) ∧ ∀ j, j < n → iv.1 ≤ (f j).toInt ∧ (f j).toInt ≤ iv.2
  | .inr ((ty, n), .inr (.inl iv)), .inl (cA, n', .inr (.inl f)) => n = n' ∧ (∃ t0 : Nat, tys[t0]? = some (cA, ty)) ∧ ∀ j, j < n → iv.1 ≤ (f j).toInt ∧ (f j).toInt ≤ iv.2
  | .inr ((ty, n), .inr (.inr rs)), .inl (cA, n', .inr (.inr (.inr (.inr f)))) => n = n' ∧ (∃ t0 : Nat, tys[t0]? = some (cA, ty)) ∧ ∀ j, j < n → ∃ r, rs[j]? = some r ∧ ax_rok R r (f j)
  | _, _ => False
theorem ax_cok_o {γ : Nat → Int} {R : List Nat} {tys : List (ClassId × FieldType)} {ci : Nat} {fs : List ax_V} {w : va_E} (h : ax_cok γ R tys (.inl (ci, fs)) w) : ∃ vs, w = .inr (ci, vs) ∧ ax_all2 (ax_ok γ R) fs vs := by
  rcases w with ⟨cA, n', f⟩ | ⟨cj, vs⟩
  · exact False.elim h
  · obtain ⟨rfl, h2⟩ := h
    exact ⟨vs, rfl, h2⟩
theorem ax_cok_n {γ : Nat → Int} {R : List Nat} {tys : List (ClassId × FieldType)} {ty : FieldType} {n : Nat} {iv : ax_I} {w : va_E} (h : ax_cok γ R tys (.inr ((ty, n), .inl iv)) w) : ∃ (cA : ClassId) (f : Nat → Int32), w = .inl (cA, n, .inl f) ∧ (∃ t0 : Nat, tys[t0]? = some (cA, ty)) ∧ ∀ j, j < n → iv.1 ≤ (f j).toInt ∧ (f j).toInt ≤ iv.2 := by
  rcases w with ⟨cA, n', f | f | f | f | f⟩ | ⟨cj, vs⟩
  · obtain ⟨rfl, h2, h3⟩ := h
    exact ⟨cA, f, rfl, h2, h3⟩
  all_goals exact False.elim h
theorem ax_cok_l {γ : Nat → Int} {R : List Nat} {tys : List (ClassId × FieldType)} {ty : FieldType} {n : Nat} {iv : ax_I} {w : va_E} (h : ax_cok γ R tys (.inr ((ty, n), .inr (.inl iv))) w) : ∃ (cA : ClassId) (f : Nat → Int64), w = .inl (cA, n, .inr (.inl f)) ∧ (∃ t0 : Nat, tys[t0]? = some (cA, ty)) ∧ ∀ j, j < n → iv.1 ≤ (f j).toInt ∧ (f j).toInt ≤ iv.2 := by
  rcases w with ⟨cA, n', f | f | f | f | f⟩ | ⟨cj, vs⟩
  · exact False.elim h
  · obtain ⟨rfl, h2, h3⟩ := h
    exact ⟨cA, f, rfl, h2, h3⟩
  all_goals exact False.elim h
theorem ax_cok_q {γ : Nat → Int} {R : List Nat} {tys : List (ClassId × FieldType)} {ty : FieldType} {n : Nat} {rs : List (Option Nat)} {w : va_E} (h : ax_cok γ R tys (.inr ((ty, n), .inr (.inr rs))) w) : ∃ (cA : ClassId) (f : Nat → Option Nat), w = .inl (cA, n, .inr (.inr (.inr (.inr f)))) ∧ (∃ t0 : Nat, tys[t0]? = some (cA, ty)) ∧ ∀ j, j < n → ∃ r, rs[j]? = some r ∧ ax_rok R r (f j) := by
  rcases w with ⟨cA, n', f | f | f | f | f⟩ | ⟨cj, vs⟩
  · exact False.elim h
  · exact False.elim h
  · exact False.elim h
  · exact False.elim h
  · obtain ⟨rfl, h2, h3⟩ := h
    exact ⟨cA, f, rfl, h2, h3⟩
  · exact False.elim h
theorem ax_cok_more {γ : Nat → Int} {R R' : List Nat} {tys tys' : List (ClassId × FieldType)} (hR : ∀ (k q : Nat), R[k]? = some q → R'[k]? = some q) (ht : ∀ (k : Nat) (q : ClassId × FieldType), tys[k]? = some q → tys'[k]? = some q) {c : ax_C} {w : va_E} (h : ax_cok γ R tys c w) : ax_cok γ R' tys' c w := by
  rcases c with ⟨ci, fs⟩ | ⟨⟨ty, n⟩, iv | iv | rs⟩
  · obtain ⟨vs, rfl, h1⟩ := ax_cok_o h
    exact ⟨rfl, ax_all2_mono (fun _ _ => ax_ok_more hR) h1⟩
  · obtain ⟨cA, f, rfl, ⟨t0, h1⟩, h2⟩ := ax_cok_n h
    exact ⟨rfl, ⟨t0, ht _ _ h1⟩, h2⟩
  · obtain ⟨cA, f, rfl, ⟨t0, h1⟩, h2⟩ := ax_cok_l h
    exact ⟨rfl, ⟨t0, ht _ _ h1⟩, h2⟩
  · obtain ⟨cA, f, rfl, ⟨t0, h1⟩, h2⟩ := ax_cok_q h
    refine ⟨rfl, ⟨t0, ht _ _ h1⟩, fun j hj => ?_⟩
    obtain ⟨r, h3, h4⟩ := h2 j hj
    exact ⟨r, h3, ax_rok_more hR h4⟩
def ax_RR (b : Nat) (ws : va_W) : List Nat := b :: ws.map (fun q => q.1)
def ax_org (pv : List Value) (cv : List (Nat × Value)) (ws : va_W) (o : ax_O) (v : Value) : Prop := match o with
  | none => True
  | some (.inl i) => ax_get i cv = some v
  | some (.inr (.inl (q, k))) => ∃ (a ci : Nat) (fs : List Value), ws[q]? = some (a, .inr (ci, fs)) ∧ fs[k]? = some v
  | some (.inr (.inr j)) => pv[j]? = some v
def ax_lok (γ : Nat → Int) (R : List Nat) (pv : List Value) (q : ax_V × Option Nat) (v : Value) : Prop := ax_ok γ R q.1 v ∧ ∀ j, q.2 = some j → pv[j]? = some v
def ax_sok (γ : Nat → Int) (R : List Nat) (pv : List Value) (cv : List (Nat × Value)) (ws : va_W) (q : ax_V × ax_O) (v : Value) : Prop := ax_ok γ R q.1 v ∧ ax_org pv cv ws q.2 v
def ax_lvs (γ : Nat → Int) (R : List Nat) (pv : List Value) (lv : ax_L) (cv : List (Nat × Value)) : Prop := ax_all2 (fun q r => q.1 = r.1 ∧ ax_lok γ R pv q.2 r.2) lv cv
def ax_hps (γ : Nat → Int) (R : List Nat) (tys : List (ClassId × FieldType)) (hp : List ax_C) (ws : va_W) : Prop := ax_all2 (fun c w => ax_cok γ R tys c w.2) hp ws
def ax_M (γ : Nat → Int) (b : Nat) (pv : List Value) (lv : ax_L) (st : ax_K) (hp : List ax_C) (pr : List ax_V) (cv : List (Nat × Value)) (cs : List Value) (ws : va_W) (tys : List (ClassId × FieldType)) : Prop :=
  ax_all2 (ax_ok γ (ax_RR b ws)) pr pv ∧ ax_lvs γ (ax_RR b ws) pv lv cv ∧ ax_all2 (ax_sok γ (ax_RR b ws) pv cv ws) st cs ∧ ax_hps γ (ax_RR b ws) tys hp ws
theorem ax_popk {α β : Type} {P : α → β → Prop} {q : α} {st : List α} {cs : List β} (h : ax_all2 P (q :: st) cs) : ∃ v cr, cs = v :: cr ∧ P q v ∧ ax_all2 P st cr := by
  cases cs with
  | nil => exact False.elim h
  | cons v cr => exact ⟨v, cr, rfl, h.1, h.2⟩
theorem ax_bnd_ok {γ : Nat → Int} {R : List Nat} {iv : ax_I} {a : ax_V} {x : Int32} (h : ax_ok γ R a (.int x)) (hx : iv.1 ≤ x.toInt ∧ x.toInt ≤ iv.2) : ax_ok γ R (ax_bnd iv a) (.int x) := by
  rcases a with a | a | (_ | a)
  · obtain ⟨⟨h1, h2⟩, h3⟩ := (show ax_nok γ a x.toInt from h)
    exact ⟨⟨by show max iv.1 a.1.1 ≤ _; omega, by show _ ≤ min iv.2 a.1.2; omega⟩, h3⟩
  all_goals exact False.elim h
theorem ax_lvup_ok {γ : Nat → Int} {R : List Nat} {pv : List Value} {iv : ax_I} {x : Int32} {i : Nat} (hx : iv.1 ≤ x.toInt ∧ x.toInt ≤ iv.2) : ∀ {lv : ax_L} {cv : List (Nat × Value)}, ax_lvs γ R pv lv cv → ax_get i cv = some (.int x) → ax_lvs γ R pv (ax_lvup i iv lv) cv
  | [], [], _, _ => trivial
  | q :: lv, r :: cv, h, e => by
    unfold ax_lvup
    unfold ax_get at e
    split
    · rename_i hq
      rw [if_pos (by rw [← h.1.1]; exact hq)] at e
      have e2 : r.2 = .int x := by simpa using e
      refine ⟨⟨h.1.1, ?_, h.1.2.2⟩, h.2⟩
      have h2 := h.1.2.1
      rw [e2] at h2 ⊢
      exact ax_bnd_ok h2 hx
    · rename_i hq
      rw [if_neg (by rw [← h.1.1]; exact hq)] at e
      exact ⟨h.1, ax_lvup_ok hx h.2 e⟩
  | [], _ :: _, h, _ => False.elim h
  | _ :: _, [], h, _ => False.elim h
theorem ax_upd_ok {α β : Type} {P : α → β → Prop} {l : List α} {k : List β} {j : Nat} {v : β} {f : α → α} (h : ax_all2 P l k) (e : k[j]? = some v) (hf : ∀ a, P a v → P (f a) v) : ax_all2 P (ax_upd l j f) k := by
  unfold ax_upd
  split
  · rename_i a ha
    obtain ⟨v2, h1, h2⟩ := ax_all2_get h ha
    rw [e] at h1
    cases h1
    exact ax_all2_setL h e (hf a h2)
  · exact h
theorem ax_ref_ok {γ : Nat → Int} {b : Nat} {pv : List Value} {o : ax_O} {iv : ax_I} {x : Int32} {lv : ax_L} {st : ax_K} {hp : List ax_C} {pr : List ax_V} {cv : List (Nat × Value)} {cs : List Value} {ws : va_W} {tys : List (ClassId × FieldType)}
    (ho : ax_org pv cv ws o (.int x)) (hx : iv.1 ≤ x.toInt ∧ x.toInt ≤ iv.2) (h : ax_M γ b pv lv st hp pr cv cs ws tys) : ax_M γ b pv (ax_ref o iv (lv, hp, pr)).1 st (ax_ref o iv (lv, hp, pr)).2.1 (ax_ref o iv (lv, hp, pr)).2.2 cv cs ws tys := by
  obtain ⟨h1, h2, h3, h4⟩ := h
  rcases o with _ | i | ⟨q, k⟩ | j
  · exact ⟨h1, h2, h3, h4⟩
  · have ho : ax_get i cv = some (.int x) := ho
    have g : ∀ (a : ax_V) (j : Nat), ax_get i lv = some (a, some j) → pv[j]? = some (.int x) := by
      intro a j e
      obtain ⟨v, e1, e2⟩ := ax_get_ok (P := fun q v => ax_lok γ (ax_RR b ws) pv q v) h2 e
      rw [ho] at e1
      cases e1
      exact e2.2 j rfl
    unfold ax_ref
    dsimp only
    split
    · rename_i a j e
      exact ⟨ax_upd_ok h1 (g a j e) (fun a h => ax_bnd_ok h hx), ax_lvup_ok hx h2 ho, h3, h4⟩
    · exact ⟨h1, ax_lvup_ok hx h2 ho, h3, h4⟩
  · obtain ⟨a, ci, fs, e1, e2⟩ := ho
    refine ⟨h1, h2, h3, ?_⟩
    refine ax_upd_ok h4 e1 ?_
    intro c hc
    rcases c with ⟨cj, as⟩ | c
    · obtain ⟨vs, e3, e4⟩ := ax_cok_o hc
      cases e3
      exact ⟨rfl, ax_upd_ok e4 e2 (fun a h => ax_bnd_ok h hx)⟩
    · exact hc
  · exact ⟨ax_upd_ok h1 ho (fun a h => ax_bnd_ok h hx), h2, h3, h4⟩
def ax_p (k : Nat) (x y : Int) : Prop := match k with
  | 0 => x = y
  | 1 => ¬ x = y
  | 2 => x < y
  | 3 => y ≤ x
  | 4 => y < x
  | _ => x ≤ y
theorem ax_rel_ok {k : Nat} {a b : ax_I} {x y : Int} (ha : a.1 ≤ x ∧ x ≤ a.2) (hb : b.1 ≤ y ∧ y ≤ b.2) (h : ax_p k x y) : ∃ iv, ax_rel k a b = some iv ∧ (iv.1.1 ≤ x ∧ x ≤ iv.1.2) ∧ iv.2.1 ≤ y ∧ y ≤ iv.2.2 := by
  have key : ((ax_rel2 k a b).1.1 ≤ x ∧ x ≤ (ax_rel2 k a b).1.2) ∧ (ax_rel2 k a b).2.1 ≤ y ∧ y ≤ (ax_rel2 k a b).2.2 := by
    match k, h with
    | 0, h => simp only [ax_p] at h; simp only [ax_rel2]; omega
    | 1, h =>
      simp only [ax_p] at h
      simp only [ax_rel2, ax_ne1]
      refine ⟨?_, ?_⟩
      · split
        · split
          · dsimp only; omega
          · split
            · dsimp only; omega
            · exact ha
        · exact ha
      · split
        · split
          · dsimp only; omega
          · split
            · dsimp only; omega
            · exact hb
        · exact hb
    | 2, h => simp only [ax_p] at h; simp only [ax_rel2]; omega
    | 3, h => simp only [ax_p] at h; simp only [ax_rel2]; omega
    | 4, h => simp only [ax_p] at h; simp only [ax_rel2]; omega
    | n + 5, h => simp only [ax_p] at h; simp only [ax_rel2]; omega
  refine ⟨ax_rel2 k a b, ?_, key⟩
  unfold ax_rel
  rw [if_pos ⟨by omega, by omega⟩]
end AXM
