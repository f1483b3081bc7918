/-! ABSTRACT RUNS: each instruction is sound, first part -/
section AXS1
variable {p : Program} {l : Launch} {e : Env} {R : Room} {s : State} {m : MethodId} {args : Array Value} {below : List Frame} {meth : Method} {c : Code} {Q : State → Prop} {D : va_G} {A : Nat → Prop} {b : Nat} {γ : Nat → Int} {pv : List Value} {own : Nat} {ini : Bool} {nL L mc ms d : Nat} {cc : ByteArray} {xs : Nat → Int32} {call : ax_F}
/-- what holds of a method that runs: the machine, its class, the words, its room; and of the script, where it is at hand (L: its length and one more) -/
def ax_X (p : Program) (R : Room) (s : State) (m : MethodId) (args : Array Value) (meth : Method) (c : Code) (A : Nat → Prop) (b : Nat) (γ : Nat → Int) (pv : List Value) (own : Nat) (ini : Bool) (nL L mc ms d : Nat) (cc : ByteArray) (xs : Nat → Int32) : Prop :=
  (p.tables.exec = Jvm.exec ∧ c.code = cc ∧ c.maxLocals = nL ∧ s.vm.findClass (ax_nm own) = some m.cls ∧ ∀ w ∈ ax_W, w.before args s = true) ∧
  (ini = true → meth.name = "<init>") ∧ (∀ w ∈ ax_nest, va_Nw w s) ∧ va_AO RX4 s ∧ (∀ q, s.heap.size ≤ q → A q) ∧
  (mc ≤ R.cells ∧ ms ≤ R.slots ∧ d + 1 ≤ R.frames ∧ 40 * d + 40 ≤ R.locals) ∧
  (0 < L → va_X b (L - 1) xs s s.heap ∧ b < s.heap.size ∧ ¬ A b ∧ ∀ (j : Nat) (v : Value), pv[j]? = some v → v = .int (xs (γ 0 + j).toNat))
/-- from every real state that the abstract one speaks of, the machine comes to Q -/
def ax_G (p : Program) (l : Launch) (e : Env) (R : Room) (s : State) (m : MethodId) (args : Array Value) (below : List Frame) (meth : Method) (c : Code) (Q : State → Prop) (D : va_G) (A : Nat → Prop) (b : Nat) (γ : Nat → Int) (pv : List Value) (nL : Nat) (S : ax_S) : Prop :=
  ∀ (cv : List (Nat × Value)) (cs : List Value) (ws : va_W) (tys : List (ClassId × FieldType)) (ls : Array Slot) (H : Heap) (locs : List Loc),
    ax_M γ b pv S.2.1 S.2.2.1 S.2.2.2.1 S.2.2.2.2.1 cv cs ws tys → lv_has ls nL cv → va_K D vwCl tys s → va_P D vwCl ws H → va_D A ws → va_S A s.heap H locs →
    W p l e R s m args below meth c H locs S.2.2.2.2.2.1 S.2.2.2.2.2.2 Q (F0 m S.1 ls cs)
theorem ax_push_ok {v : ax_V} {val : Value} {len0 len pc : Nat} {lv : ax_L} {st : ax_K} {hp : List ax_C} {pr : List ax_V} {cn : Nat × Nat} {out : List ax_S} (hv : ∀ R, ax_ok γ R v val)
    (row : len = len0 → ∀ {H : Heap} {locs : List Loc} {ls : Array Slot} {rest : List Value}, W p l e R s m args below meth c H locs cn.1 cn.2 Q (F0 m (pc + len0) ls (val :: rest)) → W p l e R s m args below meth c H locs cn.1 cn.2 Q (F0 m pc ls rest))
    (h : ax_push v len0 len pc lv st hp pr cn = some out) (hG : ∀ S ∈ out, ax_G p l e R s m args below meth c Q D A b γ pv nL S) : ax_G p l e R s m args below meth c Q D A b γ pv nL (pc, lv, st, hp, pr, cn) := by
  unfold ax_push at h
  split at h
  · rename_i hl
    cases h
    intro cv cs ws tys ls H locs M hls hK hP hD hS
    refine row hl ?_
    exact hG _ (List.mem_singleton.mpr rfl) cv (val :: cs) ws tys ls H locs ⟨M.1, M.2.1, ⟨⟨hv _, trivial⟩, M.2.2.1⟩, M.2.2.2⟩ hls hK hP hD hS
  · cases h
theorem ax_nol_ok {γ : Nat → Int} {R : List Nat} {pv : List Value} {cv cv' : List (Nat × Value)} {ws : va_W} {st : ax_K} {cs : List Value} (h : ax_all2 (ax_sok γ R pv cv ws) st cs) : ax_all2 (ax_sok γ R pv cv' ws) (ax_nol st) cs := by
  refine ax_all2_mapL _ (fun q v hq => ⟨hq.1, ?_⟩) h
  have h2 := hq.2
  rcases q with ⟨a, _ | i | ⟨q, k⟩ | j⟩
  · trivial
  · trivial
  · exact h2
  · exact h2
theorem ax_put1_ok {γ : Nat → Int} {R : List Nat} {pv : List Value} {lv : ax_L} {cv : List (Nat × Value)} {i : Nat} {a : ax_V} {v : Value} (h : ax_lvs γ R pv lv cv) (hv : ax_ok γ R a v) :
    ax_lvs γ R pv (ax_put1 i a lv) ((i, v) :: cv.filter (fun q => !(q.1 == i) && !(q.1 + 1 == i && q.2.category == 2))) := by
  refine ⟨⟨rfl, hv, fun j h => by cases h⟩, ax_all2_filter (fun q r hq => ?_) h⟩
  rw [hq.1, ax_ok_cat hq.2.1]
theorem ax_put2_ok {γ : Nat → Int} {R : List Nat} {pv : List Value} {lv : ax_L} {cv : List (Nat × Value)} {i : Nat} {a : ax_V} {v : Value} (h : ax_lvs γ R pv lv cv) (hv : ax_ok γ R a v) :
    ax_lvs γ R pv (ax_put2 i a lv) ((i, v) :: cv.filter (fun q => !(q.1 == i) && (!(q.1 == i + 1) && !(q.1 + 1 == i && q.2.category == 2)))) := by
  refine ⟨⟨rfl, hv, fun j h => by cases h⟩, ax_all2_filter (fun q r hq => ?_) h⟩
  rw [hq.1, ax_ok_cat hq.2.1]
theorem ax_ld_ok {kd i len0 len pc : Nat} {lv : ax_L} {st : ax_K} {hp : List ax_C} {pr : List ax_V} {cn : Nat × Nat} {out : List ax_S}
    (ri : kd = 0 → len = len0 → ∀ {H : Heap} {locs : List Loc} {ls : Array Slot} {rest : List Value} {x : Int32}, ls[i]? = some (.val (.int x)) → W p l e R s m args below meth c H locs cn.1 cn.2 Q (F0 m (pc + len0) ls (.int x :: rest)) → W p l e R s m args below meth c H locs cn.1 cn.2 Q (F0 m pc ls rest))
    (rl : kd = 1 → len = len0 → ∀ {H : Heap} {locs : List Loc} {ls : Array Slot} {rest : List Value} {x : Int64}, ls[i]? = some (.val (.long x)) → W p l e R s m args below meth c H locs cn.1 cn.2 Q (F0 m (pc + len0) ls (.long x :: rest)) → W p l e R s m args below meth c H locs cn.1 cn.2 Q (F0 m pc ls rest))
    (rr : kd = 2 → len = len0 → ∀ {H : Heap} {locs : List Loc} {ls : Array Slot} {rest : List Value} {x : Nat}, ls[i]? = some (.val (.ref x)) → W p l e R s m args below meth c H locs cn.1 cn.2 Q (F0 m (pc + len0) ls (.ref x :: rest)) → W p l e R s m args below meth c H locs cn.1 cn.2 Q (F0 m pc ls rest))
    (rn : kd = 2 → len = len0 → ∀ {H : Heap} {locs : List Loc} {ls : Array Slot} {rest : List Value}, ls[i]? = some (.val .null) → W p l e R s m args below meth c H locs cn.1 cn.2 Q (F0 m (pc + len0) ls (.null :: rest)) → W p l e R s m args below meth c H locs cn.1 cn.2 Q (F0 m pc ls rest))
    (h : ax_ld kd i len0 len pc lv st hp pr cn = some out) (hG : ∀ S ∈ out, ax_G p l e R s m args below meth c Q D A b γ pv nL S) : ax_G p l e R s m args below meth c Q D A b γ pv nL (pc, lv, st, hp, pr, cn) := by
  unfold ax_ld at h
  split at h
  · rename_i a tg hg
    split at h
    · rename_i hl
      cases h
      intro cv cs ws tys ls H locs M hls hK hP hD hS
      obtain ⟨v, e1, e2⟩ := ax_get_ok (P := fun q v => ax_lok γ (ax_RR b ws) pv q v) M.2.1 hg
      obtain ⟨x, rfl, e3⟩ := ax_ok_i e2.1
      refine ri hl.1 hl.2 (hls.2.2 _ (ax_get_mem e1)) ?_
      exact hG _ (List.mem_singleton.mpr rfl) cv _ ws tys ls H locs ⟨M.1, M.2.1, ⟨⟨e3, e1⟩, M.2.2.1⟩, M.2.2.2⟩ hls hK hP hD hS
    · cases h
  · rename_i a tg hg
    split at h
    · rename_i hl
      cases h
      intro cv cs ws tys ls H locs M hls hK hP hD hS
      obtain ⟨v, e1, e2⟩ := ax_get_ok (P := fun q v => ax_lok γ (ax_RR b ws) pv q v) M.2.1 hg
      obtain ⟨x, rfl, e3⟩ := ax_ok_l e2.1
      refine rl hl.1 hl.2 (hls.2.2 _ (ax_get_mem e1)) ?_
      exact hG _ (List.mem_singleton.mpr rfl) cv _ ws tys ls H locs ⟨M.1, M.2.1, ⟨⟨e3, trivial⟩, M.2.2.1⟩, M.2.2.2⟩ hls hK hP hD hS
    · cases h
  · rename_i a tg hg
    split at h
    · rename_i hl
      cases h
      intro cv cs ws tys ls H locs M hls hK hP hD hS
      obtain ⟨v, e1, e2⟩ := ax_get_ok (P := fun q v => ax_lok γ (ax_RR b ws) pv q v) M.2.1 hg
      have e3 := e2.1
      rcases a with _ | a
      · cases ax_ok_n e3
        refine rn hl.1 hl.2 (hls.2.2 _ (ax_get_mem e1)) ?_
        exact hG _ (List.mem_singleton.mpr rfl) cv _ ws tys ls H locs ⟨M.1, M.2.1, ⟨⟨trivial, trivial⟩, M.2.2.1⟩, M.2.2.2⟩ hls hK hP hD hS
      · obtain ⟨x, rfl, e4⟩ := ax_ok_r e3
        refine rr hl.1 hl.2 (hls.2.2 _ (ax_get_mem e1)) ?_
        exact hG _ (List.mem_singleton.mpr rfl) cv _ ws tys ls H locs ⟨M.1, M.2.1, ⟨⟨e4, trivial⟩, M.2.2.1⟩, M.2.2.2⟩ hls hK hP hD hS
    · cases h
  · cases h
theorem ax_st_ok {kd i len0 len pc : Nat} {lv : ax_L} {st : ax_K} {hp : List ax_C} {pr : List ax_V} {cn : Nat × Nat} {out : List ax_S}
    (r1 : ∀ {v : Value}, v.category = 1 → (kd = 0 → ∃ x, v = .int x) → (kd = 1 → False) → (kd = 2 → v = .null ∨ ∃ x, v = .ref x) → len = len0 → i < nL → ∀ {H : Heap} {locs : List Loc} {ls : Array Slot} {rest : List Value} {cv : List (Nat × Value)}, lv_has ls nL cv → (∀ ls' : Array Slot, lv_has ls' nL ((i, v) :: cv.filter (fun q => !(q.1 == i) && !(q.1 + 1 == i && q.2.category == 2))) → W p l e R s m args below meth c H locs cn.1 cn.2 Q (F0 m (pc + len0) ls' rest)) → W p l e R s m args below meth c H locs cn.1 cn.2 Q (F0 m pc ls (v :: rest)))
    (r2 : kd = 1 → ∀ {x : Int64}, len = len0 → i + 1 < nL → ∀ {H : Heap} {locs : List Loc} {ls : Array Slot} {rest : List Value} {cv : List (Nat × Value)}, lv_has ls nL cv → (∀ ls' : Array Slot, lv_has ls' nL ((i, .long x) :: cv.filter (fun q => !(q.1 == i) && (!(q.1 == i + 1) && !(q.1 + 1 == i && q.2.category == 2)))) → W p l e R s m args below meth c H locs cn.1 cn.2 Q (F0 m (pc + len0) ls' rest)) → W p l e R s m args below meth c H locs cn.1 cn.2 Q (F0 m pc ls (.long x :: rest)))
    (h : ax_st kd nL i len0 len pc lv st hp pr cn = some out) (hG : ∀ S ∈ out, ax_G p l e R s m args below meth c Q D A b γ pv nL S) : ax_G p l e R s m args below meth c Q D A b γ pv nL (pc, lv, st, hp, pr, cn) := by
  unfold ax_st at h
  split at h
  · split at h
    · rename_i hl
      cases h
      intro cv cs ws tys ls H locs M hls hK hP hD hS
      obtain ⟨v, cr, rfl, e1, e2⟩ := ax_popk M.2.2.1
      obtain ⟨x, rfl, e3⟩ := ax_ok_i e1.1
      refine r1 rfl (fun _ => ⟨x, rfl⟩) (fun h => by omega) (fun h => by omega) hl.2.1 hl.2.2 hls (fun ls' hls' => ?_)
      exact hG _ (List.mem_singleton.mpr rfl) _ cr ws tys ls' H locs ⟨M.1, ax_put1_ok M.2.1 e1.1, ax_nol_ok e2, M.2.2.2⟩ hls' hK hP hD hS
    · cases h
  · split at h
    · rename_i hl
      cases h
      intro cv cs ws tys ls H locs M hls hK hP hD hS
      obtain ⟨v, cr, rfl, e1, e2⟩ := ax_popk M.2.2.1
      obtain ⟨x, rfl, e3⟩ := ax_ok_l e1.1
      refine r2 hl.1 hl.2.1 hl.2.2 hls (fun ls' hls' => ?_)
      exact hG _ (List.mem_singleton.mpr rfl) _ cr ws tys ls' H locs ⟨M.1, ax_put2_ok M.2.1 e1.1, ax_nol_ok e2, M.2.2.2⟩ hls' hK hP hD hS
    · cases h
  · rename_i a o r
    split at h
    · rename_i hl
      cases h
      intro cv cs ws tys ls H locs M hls hK hP hD hS
      obtain ⟨v, cr, rfl, e1, e2⟩ := ax_popk M.2.2.1
      have e3 : v.category = 1 ∧ (v = .null ∨ ∃ x, v = .ref x) := by
        rcases a with _ | a
        · cases ax_ok_n e1.1; exact ⟨rfl, Or.inl rfl⟩
        · obtain ⟨x, rfl, -⟩ := ax_ok_r e1.1; exact ⟨rfl, Or.inr ⟨x, rfl⟩⟩
      refine r1 e3.1 (fun h => by omega) (fun h => by omega) (fun _ => e3.2) hl.2.1 hl.2.2 hls (fun ls' hls' => ?_)
      exact hG _ (List.mem_singleton.mpr rfl) _ cr ws tys ls' H locs ⟨M.1, ax_put1_ok M.2.1 e1.1, ax_nol_ok e2, M.2.2.2⟩ hls' hK hP hD hS
    · cases h
  · cases h
theorem ax_ii_ok {f : ax_N → ax_N → Option ax_N} {g : Int32 → Int32 → Int32} {len pc : Nat} {lv : ax_L} {st : ax_K} {hp : List ax_C} {pr : List ax_V} {cn : Nat × Nat} {out : List ax_S} (hf : ∀ (a b z : ax_N) (x y : Int32), f a b = some z → ax_nok γ a x.toInt → ax_nok γ b y.toInt → ax_nok γ z (g x y).toInt)
    (row : len = 1 → ∀ {H : Heap} {locs : List Loc} {ls : Array Slot} {rest : List Value} {x y : Int32}, (∃ a b z, f a b = some z ∧ ax_nok γ b y.toInt) → W p l e R s m args below meth c H locs cn.1 cn.2 Q (F0 m (pc + 1) ls (.int (g x y) :: rest)) → W p l e R s m args below meth c H locs cn.1 cn.2 Q (F0 m pc ls (.int y :: .int x :: rest)))
    (h : ax_ii f len pc lv st hp pr cn = some out) (hG : ∀ S ∈ out, ax_G p l e R s m args below meth c Q D A b γ pv nL S) : ax_G p l e R s m args below meth c Q D A b γ pv nL (pc, lv, st, hp, pr, cn) := by
  unfold ax_ii at h
  split at h
  · split at h
    · rename_i z hz
      split at h
      · rename_i hl
        cases h
        intro cv cs ws tys ls H locs M hls hK hP hD hS
        obtain ⟨v1, cr, rfl, e1, e2⟩ := ax_popk M.2.2.1
        obtain ⟨v2, cr, rfl, e3, e4⟩ := ax_popk e2
        obtain ⟨y, rfl, e5⟩ := ax_ok_i e1.1
        obtain ⟨x, rfl, e6⟩ := ax_ok_i e3.1
        refine row hl ⟨_, _, z, hz, e5⟩ ?_
        exact hG _ (List.mem_singleton.mpr rfl) cv _ ws tys ls H locs ⟨M.1, M.2.1, ⟨⟨hf _ _ z x y hz e6 e5, trivial⟩, e4⟩, M.2.2.2⟩ hls hK hP hD hS
      · cases h
    · cases h
  · cases h
theorem ax_ll_ok {f : ax_I → ax_I → Option ax_I} {g : Int64 → Int64 → Int64} {len pc : Nat} {lv : ax_L} {st : ax_K} {hp : List ax_C} {pr : List ax_V} {cn : Nat × Nat} {out : List ax_S} (hf : ∀ (a b z : ax_I) (x y : Int64), f a b = some z → (a.1 ≤ x.toInt ∧ x.toInt ≤ a.2) → (b.1 ≤ y.toInt ∧ y.toInt ≤ b.2) → (z.1 ≤ (g x y).toInt ∧ (g x y).toInt ≤ z.2))
    (row : len = 1 → ∀ {H : Heap} {locs : List Loc} {ls : Array Slot} {rest : List Value} {x y : Int64}, (∃ a b z, f a b = some z ∧ (b.1 ≤ y.toInt ∧ y.toInt ≤ b.2)) → W p l e R s m args below meth c H locs cn.1 cn.2 Q (F0 m (pc + 1) ls (.long (g x y) :: rest)) → W p l e R s m args below meth c H locs cn.1 cn.2 Q (F0 m pc ls (.long y :: .long x :: rest)))
    (h : ax_ll f len pc lv st hp pr cn = some out) (hG : ∀ S ∈ out, ax_G p l e R s m args below meth c Q D A b γ pv nL S) : ax_G p l e R s m args below meth c Q D A b γ pv nL (pc, lv, st, hp, pr, cn) := by
  unfold ax_ll at h
  split at h
  · split at h
    · rename_i z hz
      split at h
      · rename_i hl
        cases h
        intro cv cs ws tys ls H locs M hls hK hP hD hS
        obtain ⟨v1, cr, rfl, e1, e2⟩ := ax_popk M.2.2.1
        obtain ⟨v2, cr, rfl, e3, e4⟩ := ax_popk e2
        obtain ⟨y, rfl, e5⟩ := ax_ok_l e1.1
        obtain ⟨x, rfl, e6⟩ := ax_ok_l e3.1
        refine row hl ⟨_, _, z, hz, e5⟩ ?_
        exact hG _ (List.mem_singleton.mpr rfl) cv _ ws tys ls H locs ⟨M.1, M.2.1, ⟨⟨hf _ _ z x y hz e6 e5, trivial⟩, e4⟩, M.2.2.2⟩ hls hK hP hD hS
      · cases h
    · cases h
  · cases h
theorem ax_iinc_ok (X : ax_X p R s m args meth c A b γ pv own ini nL L mc ms d cc xs) {i len pc : Nat} {v : Int} {lv : ax_L} {st : ax_K} {hp : List ax_C} {pr : List ax_V} {cn : Nat × Nat} {out : List ax_S} (hd : decode cc pc = .ok (.iinc i v, len)) (h : ax_iinc nL i v len pc lv st hp pr cn = some out) (hG : ∀ S ∈ out, ax_G p l e R s m args below meth c Q D A b γ pv nL S) : ax_G p l e R s m args below meth c Q D A b γ pv nL (pc, lv, st, hp, pr, cn) := by
  obtain ⟨⟨hx, hb, -⟩, -⟩ := X
  unfold ax_iinc at h
  split at h
  · rename_i a tg hg
    split at h
    · rename_i hl
      obtain ⟨rfl, hn⟩ := hl
      cases h
      intro cv cs ws tys ls H locs M hls hK hP hD hS
      obtain ⟨w, e1, e2⟩ := ax_get_ok (P := fun q v => ax_lok γ (ax_RR b ws) pv q v) M.2.1 hg
      obtain ⟨x, rfl, e3⟩ := ax_ok_i e2.1
      obtain ⟨k, hk⟩ := List.getElem?_of_mem (ax_get_mem e1)
      refine lv_iinc hx hb hd hls hk rfl hn rfl (fun ls' hls' => ?_)
      exact hG _ (List.mem_singleton.mpr rfl) _ cs ws tys ls' H locs ⟨M.1, ax_put1_ok M.2.1 (show ax_ok γ (ax_RR b ws) (.inl _) (.int _) from ax_add_ok e3 (ax_c_ok γ _)), ax_nol_ok M.2.2.1, M.2.2.2⟩ hls' hK hP hD hS
    · cases h
  · cases h
end AXS1
