/-! ABSTRACT RUNS: each instruction is sound, second part -/
section AXS2
variable {p : Program} {l : Launch} {e : Env} {R : Room} {s : State} {m : MethodId} {args : Array Value} {below : List Frame} {meth : Method} {c : Code} {Q : State → Prop} {D : va_G} {A : Nat → Prop} {b : Nat} {γ : Nat → Int} {pv : List Value} {own : Nat} {ini : Bool} {nL L mc ms d : Nat} {cc : ByteArray} {xs : Nat → Int32} {call : ax_F}
theorem ax_ineg_ok (X : ax_X p R s m args meth c A b γ pv own ini nL L mc ms d cc xs) {len pc : Nat} {lv : ax_L} {st : ax_K} {hp : List ax_C} {pr : List ax_V} {cn : Nat × Nat} {out : List ax_S} (hd : decode cc pc = .ok (.ineg, len)) (h : ax_ineg len pc lv st hp pr cn = some out) (hG : ∀ S ∈ out, ax_G p l e R s m args below meth c Q D A b γ pv nL S) : ax_G p l e R s m args below meth c Q D A b γ pv nL (pc, lv, st, hp, pr, cn) := by
  obtain ⟨⟨hx, hb, -⟩, -⟩ := X
  unfold ax_ineg at h
  split at h
  · split at h
    · rename_i hl
      subst hl
      cases h
      intro cv cs ws tys ls H locs M hls hK hP hD hS
      obtain ⟨v1, cr, rfl, e1, e2⟩ := ax_popk M.2.2.1
      obtain ⟨y, rfl, e5⟩ := ax_ok_i e1.1
      refine lv_ineg hx hb hd ?_
      exact hG _ (List.mem_singleton.mpr rfl) cv _ ws tys ls H locs ⟨M.1, M.2.1, ⟨⟨ax_neg_ok e5, trivial⟩, e2⟩, M.2.2.2⟩ hls hK hP hD hS
    · cases h
  · cases h
theorem ax_i2l_ok (X : ax_X p R s m args meth c A b γ pv own ini nL L mc ms d cc xs) {len pc : Nat} {lv : ax_L} {st : ax_K} {hp : List ax_C} {pr : List ax_V} {cn : Nat × Nat} {out : List ax_S} (hd : decode cc pc = .ok (.i2l, len)) (h : ax_i2l len pc lv st hp pr cn = some out) (hG : ∀ S ∈ out, ax_G p l e R s m args below meth c Q D A b γ pv nL S) : ax_G p l e R s m args below meth c Q D A b γ pv nL (pc, lv, st, hp, pr, cn) := by
  obtain ⟨⟨hx, hb, -⟩, -⟩ := X
  unfold ax_i2l at h
  split at h
  · split at h
    · rename_i hl
      subst hl
      cases h
      intro cv cs ws tys ls H locs M hls hK hP hD hS
      obtain ⟨v1, cr, rfl, e1, e2⟩ := ax_popk M.2.2.1
      obtain ⟨y, rfl, e5⟩ := ax_ok_i e1.1
      refine t_i2l hx hb hd rfl ?_
      refine hG _ (List.mem_singleton.mpr rfl) cv _ ws tys ls H locs ⟨M.1, M.2.1, ⟨⟨?_, trivial⟩, e2⟩, M.2.2.2⟩ hls hK hP hD hS
      show _ ≤ y.toInt64.toInt ∧ y.toInt64.toInt ≤ _
      rw [Int32.toInt_toInt64]
      exact e5.1
    · cases h
  · cases h
theorem ax_l2i_ok (X : ax_X p R s m args meth c A b γ pv own ini nL L mc ms d cc xs) {len pc : Nat} {lv : ax_L} {st : ax_K} {hp : List ax_C} {pr : List ax_V} {cn : Nat × Nat} {out : List ax_S} (hd : decode cc pc = .ok (.l2i, len)) (h : ax_l2i len pc lv st hp pr cn = some out) (hG : ∀ S ∈ out, ax_G p l e R s m args below meth c Q D A b γ pv nL S) : ax_G p l e R s m args below meth c Q D A b γ pv nL (pc, lv, st, hp, pr, cn) := by
  obtain ⟨⟨hx, hb, -⟩, -⟩ := X
  unfold ax_l2i at h
  split at h
  · split at h
    · rename_i hl
      subst hl
      cases h
      intro cv cs ws tys ls H locs M hls hK hP hD hS
      obtain ⟨v1, cr, rfl, e1, e2⟩ := ax_popk M.2.2.1
      obtain ⟨y, rfl, e5⟩ := ax_ok_l e1.1
      refine t_l2i hx hb hd rfl ?_
      refine hG _ (List.mem_singleton.mpr rfl) cv _ ws tys ls H locs ⟨M.1, M.2.1, ⟨⟨?_, trivial⟩, e2⟩, M.2.2.2⟩ hls hK hP hD hS
      exact ax_fitN_ok (z := y.toInt) (Int64.toInt_toInt32 y) e5 (fun _ _ h => by cases h)
    · cases h
  · cases h
theorem ax_i2b_ok (X : ax_X p R s m args meth c A b γ pv own ini nL L mc ms d cc xs) {len pc : Nat} {lv : ax_L} {st : ax_K} {hp : List ax_C} {pr : List ax_V} {cn : Nat × Nat} {out : List ax_S} (hd : decode cc pc = .ok (.i2b, len)) (h : ax_i2b len pc lv st hp pr cn = some out) (hG : ∀ S ∈ out, ax_G p l e R s m args below meth c Q D A b γ pv nL S) : ax_G p l e R s m args below meth c Q D A b γ pv nL (pc, lv, st, hp, pr, cn) := by
  obtain ⟨⟨hx, hb, -⟩, -⟩ := X
  unfold ax_i2b at h
  split at h
  · split at h
    · rename_i hl
      subst hl
      cases h
      intro cv cs ws tys ls H locs M hls hK hP hD hS
      obtain ⟨v1, cr, rfl, e1, e2⟩ := ax_popk M.2.2.1
      obtain ⟨y, rfl, e5⟩ := ax_ok_i e1.1
      refine lv_i2b hx hb hd rfl ?_
      refine hG _ (List.mem_singleton.mpr rfl) cv _ ws tys ls H locs ⟨M.1, M.2.1, ⟨⟨⟨?_, fun _ _ h => by cases h⟩, trivial⟩, e2⟩, M.2.2.2⟩ hls hK hP hD hS
      show -128 ≤ y.toInt8.toInt32.toInt ∧ y.toInt8.toInt32.toInt ≤ 127
      rw [Int8.toInt_toInt32]
      have h1 := y.toInt8.le_toInt
      have h2 := y.toInt8.toInt_lt
      omega
    · cases h
  · cases h
theorem ax_lcmp_ok {γ : Nat → Int} {a b : ax_I} {x y : Int64} (ha : a.1 ≤ x.toInt ∧ x.toInt ≤ a.2) (hb : b.1 ≤ y.toInt ∧ y.toInt ≤ b.2) : ax_nok γ (ax_lcmp a b) (lg_cmp x y).toInt := by
  have h1 : (1 : Int32).toInt = 1 := by decide
  have h0 : (0 : Int32).toInt = 0 := by decide
  have hm : (-1 : Int32).toInt = -1 := by decide
  have hlt : x > y ↔ y.toInt < x.toInt := Int64.lt_iff_toInt_lt
  have heq : x = y ↔ x.toInt = y.toInt := Int64.toInt_inj.symm
  unfold ax_lcmp lg_cmp
  simp only [hlt, heq]
  refine ⟨?_, fun _ _ h => ?_⟩
  · split
    · rw [if_neg (by omega), if_neg (by omega), hm]; exact ⟨by decide, by decide⟩
    · split
      · rw [if_pos (by omega), h1]; exact ⟨by decide, by decide⟩
      · split
        · rw [if_neg (by omega), if_pos (by omega), h0]; exact ⟨by decide, by decide⟩
        · split
          · rw [h1]; exact ⟨by decide, by decide⟩
          · split
            · rw [h0]; exact ⟨by decide, by decide⟩
            · rw [hm]; exact ⟨by decide, by decide⟩
  · split at h
    · cases h
    · split at h
      · cases h
      · split at h <;> cases h
theorem ax_lcp_ok (X : ax_X p R s m args meth c A b γ pv own ini nL L mc ms d cc xs) {len pc : Nat} {lv : ax_L} {st : ax_K} {hp : List ax_C} {pr : List ax_V} {cn : Nat × Nat} {out : List ax_S} (hd : decode cc pc = .ok (.lcmp, len)) (h : ax_lcp len pc lv st hp pr cn = some out) (hG : ∀ S ∈ out, ax_G p l e R s m args below meth c Q D A b γ pv nL S) : ax_G p l e R s m args below meth c Q D A b γ pv nL (pc, lv, st, hp, pr, cn) := by
  obtain ⟨⟨hx, hb, -⟩, -⟩ := X
  unfold ax_lcp at h
  split at h
  · split at h
    · rename_i hl
      subst hl
      cases h
      intro cv cs ws tys ls H locs M hls hK hP hD hS
      obtain ⟨v1, cr, rfl, e1, e2⟩ := ax_popk M.2.2.1
      obtain ⟨v2, cr, rfl, e3, e4⟩ := ax_popk e2
      obtain ⟨y, rfl, e5⟩ := ax_ok_l e1.1
      obtain ⟨x, rfl, e6⟩ := ax_ok_l e3.1
      refine W.lcmp hx hb hd ?_
      exact hG _ (List.mem_singleton.mpr rfl) cv _ ws tys ls H locs ⟨M.1, M.2.1, ⟨⟨ax_lcmp_ok e6 e5, trivial⟩, e4⟩, M.2.2.2⟩ hls hK hP hD hS
    · cases h
  · cases h
theorem ax_dup_ok (X : ax_X p R s m args meth c A b γ pv own ini nL L mc ms d cc xs) {len pc : Nat} {lv : ax_L} {st : ax_K} {hp : List ax_C} {pr : List ax_V} {cn : Nat × Nat} {out : List ax_S} (hd : decode cc pc = .ok (.dup, len)) (h : ax_dup len pc lv st hp pr cn = some out) (hG : ∀ S ∈ out, ax_G p l e R s m args below meth c Q D A b γ pv nL S) : ax_G p l e R s m args below meth c Q D A b γ pv nL (pc, lv, st, hp, pr, cn) := by
  obtain ⟨⟨hx, hb, -⟩, -⟩ := X
  unfold ax_dup at h
  split at h
  · split at h
    · rename_i hl
      obtain ⟨rfl, hc⟩ := hl
      cases h
      intro cv cs ws tys ls H locs M hls hK hP hD hS
      obtain ⟨v1, cr, rfl, e1, e2⟩ := ax_popk M.2.2.1
      refine lv_dup hx hb hd (by rw [← ax_ok_cat e1.1]; exact hc) ?_
      exact hG _ (List.mem_singleton.mpr rfl) cv _ ws tys ls H locs ⟨M.1, M.2.1, ⟨e1, e1, e2⟩, M.2.2.2⟩ hls hK hP hD hS
    · cases h
  · cases h
theorem ax_dup2_ok (X : ax_X p R s m args meth c A b γ pv own ini nL L mc ms d cc xs) {len pc : Nat} {lv : ax_L} {st : ax_K} {hp : List ax_C} {pr : List ax_V} {cn : Nat × Nat} {out : List ax_S} (hd : decode cc pc = .ok (.dup2, len)) (h : ax_dup2 len pc lv st hp pr cn = some out) (hG : ∀ S ∈ out, ax_G p l e R s m args below meth c Q D A b γ pv nL S) : ax_G p l e R s m args below meth c Q D A b γ pv nL (pc, lv, st, hp, pr, cn) := by
  obtain ⟨⟨hx, hb, -⟩, -⟩ := X
  unfold ax_dup2 at h
  split at h
  · split at h
    · rename_i hl
      obtain ⟨rfl, hc, hc2⟩ := hl
      cases h
      intro cv cs ws tys ls H locs M hls hK hP hD hS
      obtain ⟨v1, cr, rfl, e1, e2⟩ := ax_popk M.2.2.1
      obtain ⟨v2, cr, rfl, e3, e4⟩ := ax_popk e2
      refine lv_dup2_11 hx hb hd (by rw [← ax_ok_cat e1.1]; exact hc) (by rw [← ax_ok_cat e3.1]; exact hc2) ?_
      exact hG _ (List.mem_singleton.mpr rfl) cv _ ws tys ls H locs ⟨M.1, M.2.1, ⟨e1, e3, e1, e3, e4⟩, M.2.2.2⟩ hls hK hP hD hS
    · cases h
  · cases h
theorem ax_pop_ok (X : ax_X p R s m args meth c A b γ pv own ini nL L mc ms d cc xs) {len pc : Nat} {lv : ax_L} {st : ax_K} {hp : List ax_C} {pr : List ax_V} {cn : Nat × Nat} {out : List ax_S} (hd : decode cc pc = .ok (.pop, len)) (h : ax_pop len pc lv st hp pr cn = some out) (hG : ∀ S ∈ out, ax_G p l e R s m args below meth c Q D A b γ pv nL S) : ax_G p l e R s m args below meth c Q D A b γ pv nL (pc, lv, st, hp, pr, cn) := by
  obtain ⟨⟨hx, hb, -⟩, -⟩ := X
  unfold ax_pop at h
  split at h
  · split at h
    · rename_i hl
      obtain ⟨rfl, hc⟩ := hl
      cases h
      intro cv cs ws tys ls H locs M hls hK hP hD hS
      obtain ⟨v1, cr, rfl, e1, e2⟩ := ax_popk M.2.2.1
      refine lv_pop hx hb hd (by rw [← ax_ok_cat e1.1]; exact hc) ?_
      exact hG _ (List.mem_singleton.mpr rfl) cv _ ws tys ls H locs ⟨M.1, M.2.1, e2, M.2.2.2⟩ hls hK hP hD hS
    · cases h
  · cases h
theorem ax_tgt_ok {pc t : Nat} {off : Int} (h : ax_tgt pc off = some t) : (pc : Int) + off = (t : Int) := by
  unfold ax_tgt at h
  split at h
  · cases h
    omega
  · cases h
theorem ax_goto_ok (X : ax_X p R s m args meth c A b γ pv own ini nL L mc ms d cc xs) {len pc : Nat} {off : Int} {lv : ax_L} {st : ax_K} {hp : List ax_C} {pr : List ax_V} {cn : Nat × Nat} {out : List ax_S} (hd : decode cc pc = .ok (.goto off, len)) (h : ax_goto off len pc lv st hp pr cn = some out) (hG : ∀ S ∈ out, ax_G p l e R s m args below meth c Q D A b γ pv nL S) : ax_G p l e R s m args below meth c Q D A b γ pv nL (pc, lv, st, hp, pr, cn) := by
  obtain ⟨⟨hx, hb, -⟩, -⟩ := X
  unfold ax_goto at h
  split at h
  · rename_i t ht
    split at h
    · rename_i hl
      subst hl
      cases h
      intro cv cs ws tys ls H locs M hls hK hP hD hS
      refine lv_goto hx hb hd (ax_tgt_ok ht) ?_
      exact hG _ (List.mem_singleton.mpr rfl) cv _ ws tys ls H locs M hls hK hP hD hS
    · cases h
  · cases h
theorem ax_ifnull_ok (X : ax_X p R s m args meth c A b γ pv own ini nL L mc ms d cc xs) {len pc : Nat} {off : Int} {lv : ax_L} {st : ax_K} {hp : List ax_C} {pr : List ax_V} {cn : Nat × Nat} {out : List ax_S} (hd : decode cc pc = .ok (.ifnull off, len)) (h : ax_nul true off len pc lv st hp pr cn = some out) (hG : ∀ S ∈ out, ax_G p l e R s m args below meth c Q D A b γ pv nL S) : ax_G p l e R s m args below meth c Q D A b γ pv nL (pc, lv, st, hp, pr, cn) := by
  obtain ⟨⟨hx, hb, -⟩, -⟩ := X
  unfold ax_nul at h
  split at h
  · rename_i t o r ht
    split at h
    · rename_i hl
      subst hl
      cases h
      intro cv cs ws tys ls H locs M hls hK hP hD hS
      obtain ⟨v1, cr, rfl, e1, e2⟩ := ax_popk M.2.2.1
      cases ax_ok_n e1.1
      refine lv_ifnullN hx hb hd (ax_tgt_ok ht) ?_
      exact hG _ (List.mem_singleton.mpr rfl) cv _ ws tys ls H locs ⟨M.1, M.2.1, e2, M.2.2.2⟩ hls hK hP hD hS
    · cases h
  · rename_i t k o r ht
    split at h
    · rename_i hl
      subst hl
      cases h
      intro cv cs ws tys ls H locs M hls hK hP hD hS
      obtain ⟨v1, cr, rfl, e1, e2⟩ := ax_popk M.2.2.1
      obtain ⟨q, rfl, -⟩ := ax_ok_r e1.1
      refine lv_ifnull hx hb hd ?_
      exact hG _ (List.mem_singleton.mpr rfl) cv _ ws tys ls H locs ⟨M.1, M.2.1, e2, M.2.2.2⟩ hls hK hP hD hS
    · cases h
  · cases h
theorem ax_ifnonnull_ok (X : ax_X p R s m args meth c A b γ pv own ini nL L mc ms d cc xs) {len pc : Nat} {off : Int} {lv : ax_L} {st : ax_K} {hp : List ax_C} {pr : List ax_V} {cn : Nat × Nat} {out : List ax_S} (hd : decode cc pc = .ok (.ifnonnull off, len)) (h : ax_nul false off len pc lv st hp pr cn = some out) (hG : ∀ S ∈ out, ax_G p l e R s m args below meth c Q D A b γ pv nL S) : ax_G p l e R s m args below meth c Q D A b γ pv nL (pc, lv, st, hp, pr, cn) := by
  obtain ⟨⟨hx, hb, -⟩, -⟩ := X
  unfold ax_nul at h
  split at h
  · rename_i t o r ht
    split at h
    · rename_i hl
      subst hl
      cases h
      intro cv cs ws tys ls H locs M hls hK hP hD hS
      obtain ⟨v1, cr, rfl, e1, e2⟩ := ax_popk M.2.2.1
      cases ax_ok_n e1.1
      refine lv_ifnonnullN hx hb hd ?_
      exact hG _ (List.mem_singleton.mpr rfl) cv _ ws tys ls H locs ⟨M.1, M.2.1, e2, M.2.2.2⟩ hls hK hP hD hS
    · cases h
  · rename_i t k o r ht
    split at h
    · rename_i hl
      subst hl
      cases h
      intro cv cs ws tys ls H locs M hls hK hP hD hS
      obtain ⟨v1, cr, rfl, e1, e2⟩ := ax_popk M.2.2.1
      obtain ⟨q, rfl, -⟩ := ax_ok_r e1.1
      refine lv_ifnonnull hx hb hd (ax_tgt_ok ht) ?_
      exact hG _ (List.mem_singleton.mpr rfl) cv _ ws tys ls H locs ⟨M.1, M.2.1, e2, M.2.2.2⟩ hls hK hP hD hS
    · cases h
  · cases h
/-- one side of a branch -/
theorem ax_br_ok {k pc : Nat} {ia ib : ax_I} {oa ob : ax_O} {x y : Int32} {lv : ax_L} {st : ax_K} {hp : List ax_C} {pr : List ax_V} {cn : Nat × Nat} {cv : List (Nat × Value)} {cs : List Value} {ws : va_W} {tys : List (ClassId × FieldType)} {ls : Array Slot} {H : Heap} {locs : List Loc}
    (ha : ia.1 ≤ x.toInt ∧ x.toInt ≤ ia.2) (hb : ib.1 ≤ y.toInt ∧ y.toInt ≤ ib.2) (hoa : ax_org pv cv ws oa (.int x)) (hob : ax_org pv cv ws ob (.int y)) (hp0 : ax_p k x.toInt y.toInt)
    (hG : ∀ S ∈ ax_br k ia ib oa ob pc lv st hp pr cn, ax_G p l e R s m args below meth c Q D A b γ pv nL S) (M : ax_M γ b pv lv st hp pr cv cs ws tys) (hls : lv_has ls nL cv) (hK : va_K D vwCl tys s) (hP : va_P D vwCl ws H) (hD : va_D A ws) (hS : va_S A s.heap H locs) :
    W p l e R s m args below meth c H locs cn.1 cn.2 Q (F0 m pc ls cs) := by
  obtain ⟨iv, e1, e2, e3⟩ := ax_rel_ok ha hb hp0
  unfold ax_br at hG
  rw [e1] at hG
  have M1 := ax_ref_ok (iv := iv.1) hoa e2 M
  have M2 := ax_ref_ok (iv := iv.2) hob e3 M1
  exact hG _ (List.mem_singleton.mpr rfl) cv cs ws tys ls H locs M2 hls hK hP hD hS
theorem ax_if2_ok {k k2 len pc : Nat} {off : Int} {P : Int32 → Int32 → Prop} {lv : ax_L} {st : ax_K} {hp : List ax_C} {pr : List ax_V} {cn : Nat × Nat} {out : List ax_S}
    (row : ∀ {H : Heap} {locs : List Loc} {ls : Array Slot} {rest : List Value} {x y : Int32} {tgt : Nat}, len = 3 → (pc : Int) + off = (tgt : Int) → (P x y → W p l e R s m args below meth c H locs cn.1 cn.2 Q (F0 m tgt ls rest)) → (¬ P x y → W p l e R s m args below meth c H locs cn.1 cn.2 Q (F0 m (pc + 3) ls rest)) → W p l e R s m args below meth c H locs cn.1 cn.2 Q (F0 m pc ls (.int y :: .int x :: rest)))
    (h1 : ∀ x y, P x y → ax_p k x.toInt y.toInt) (h2 : ∀ x y, ¬ P x y → ax_p k2 x.toInt y.toInt)
    (h : ax_if2 k k2 off len pc lv st hp pr cn = some out) (hG : ∀ S ∈ out, ax_G p l e R s m args below meth c Q D A b γ pv nL S) : ax_G p l e R s m args below meth c Q D A b γ pv nL (pc, lv, st, hp, pr, cn) := by
  unfold ax_if2 at h
  split at h
  · unfold ax_if at h
    split at h
    · cases h
    · rename_i t ht
      split at h
      · rename_i hl
        cases h
        intro cv cs ws tys ls H locs M hls hK hP hD hS
        obtain ⟨v1, cr, rfl, e1, e2⟩ := ax_popk M.2.2.1
        obtain ⟨v2, cr, rfl, e3, e4⟩ := ax_popk e2
        obtain ⟨y, rfl, e5⟩ := ax_ok_i e1.1
        obtain ⟨x, rfl, e6⟩ := ax_ok_i e3.1
        refine row hl (ax_tgt_ok ht) (fun c1 => ?_) (fun c1 => ?_)
        · exact ax_br_ok e6.1 e5.1 e3.2 e1.2 (h1 x y c1) (fun S hS => hG S (List.mem_append_left _ hS)) ⟨M.1, M.2.1, e4, M.2.2.2⟩ hls hK hP hD hS
        · exact ax_br_ok e6.1 e5.1 e3.2 e1.2 (h2 x y c1) (fun S hS => hG S (List.mem_append_right _ hS)) ⟨M.1, M.2.1, e4, M.2.2.2⟩ hls hK hP hD hS
      · cases h
  · cases h
theorem ax_if1_ok {k k2 len pc : Nat} {off : Int} {P : Int32 → Prop} {lv : ax_L} {st : ax_K} {hp : List ax_C} {pr : List ax_V} {cn : Nat × Nat} {out : List ax_S}
    (row : ∀ {H : Heap} {locs : List Loc} {ls : Array Slot} {rest : List Value} {x : Int32} {tgt : Nat}, len = 3 → (pc : Int) + off = (tgt : Int) → (P x → W p l e R s m args below meth c H locs cn.1 cn.2 Q (F0 m tgt ls rest)) → (¬ P x → W p l e R s m args below meth c H locs cn.1 cn.2 Q (F0 m (pc + 3) ls rest)) → W p l e R s m args below meth c H locs cn.1 cn.2 Q (F0 m pc ls (.int x :: rest)))
    (h1 : ∀ x, P x → ax_p k x.toInt (0 : Int32).toInt) (h2 : ∀ x, ¬ P x → ax_p k2 x.toInt (0 : Int32).toInt)
    (h : ax_if1 k k2 off len pc lv st hp pr cn = some out) (hG : ∀ S ∈ out, ax_G p l e R s m args below meth c Q D A b γ pv nL S) : ax_G p l e R s m args below meth c Q D A b γ pv nL (pc, lv, st, hp, pr, cn) := by
  unfold ax_if1 at h
  split at h
  · unfold ax_if at h
    split at h
    · cases h
    · rename_i t ht
      split at h
      · rename_i hl
        cases h
        intro cv cs ws tys ls H locs M hls hK hP hD hS
        obtain ⟨v2, cr, rfl, e3, e4⟩ := ax_popk M.2.2.1
        obtain ⟨x, rfl, e6⟩ := ax_ok_i e3.1
        refine row hl (ax_tgt_ok ht) (fun c1 => ?_) (fun c1 => ?_)
        · exact ax_br_ok (y := 0) (ob := none) (ib := (0, 0)) e6.1 ⟨by decide, by decide⟩ e3.2 trivial (h1 x c1) (fun S hS => hG S (List.mem_append_left _ hS)) ⟨M.1, M.2.1, e4, M.2.2.2⟩ hls hK hP hD hS
        · exact ax_br_ok (y := 0) (ob := none) (ib := (0, 0)) e6.1 ⟨by decide, by decide⟩ e3.2 trivial (h2 x c1) (fun S hS => hG S (List.mem_append_right _ hS)) ⟨M.1, M.2.1, e4, M.2.2.2⟩ hls hK hP hD hS
      · cases h
  · cases h
theorem ax_sws_ok {offs : List Int} {lo : Int} {ia : ax_I} {oa : ax_O} {pc : Nat} {lv : ax_L} {r : ax_K} {hp : List ax_C} {pr : List ax_V} {cn : Nat × Nat} : ∀ {f j : Nat} {out : List ax_S}, ax_sws offs lo ia oa pc lv r hp pr cn f j = some out → ∀ i : Nat, j ≤ i → i < j + f → ∃ off t, offs[i]? = some off ∧ ax_tgt pc off = some t ∧ ∀ S ∈ ax_br 0 ia (lo + i, lo + i) oa none t lv r hp pr cn, S ∈ out
  | 0, j, out, _, i, h1, h2 => by omega
  | f + 1, j, out, h, i, h1, h2 => by
    unfold ax_sws at h
    split at h
    · rename_i off l ho hs
      split at h
      · rename_i t ht
        cases h
        by_cases hi : i = j
        · subst hi
          exact ⟨off, t, ho, ht, fun S hS => List.mem_append_left _ hS⟩
        · obtain ⟨o2, t2, k1, k2, k3⟩ := ax_sws_ok hs i (by omega) (by omega)
          exact ⟨o2, t2, k1, k2, fun S hS => List.mem_append_right _ (k3 S hS)⟩
      · cases h
    · cases h
theorem ax_sw_ok (X : ax_X p R s m args meth c A b γ pv own ini nL L mc ms d cc xs) {dflt lo hi : Int} {offs : Array Int} {len pc : Nat} {lv : ax_L} {st : ax_K} {hp : List ax_C} {pr : List ax_V} {cn : Nat × Nat} {out : List ax_S} (hd : decode cc pc = .ok (.tableswitch dflt lo hi offs, len)) (hlo : -2147483648 ≤ lo ∧ lo ≤ 2147483647 ∧ -2147483648 ≤ hi ∧ hi ≤ 2147483647) (h : ax_sw dflt lo hi offs pc lv st hp pr cn = some out) (hG : ∀ S ∈ out, ax_G p l e R s m args below meth c Q D A b γ pv nL S) : ax_G p l e R s m args below meth c Q D A b γ pv nL (pc, lv, st, hp, pr, cn) := by
  obtain ⟨⟨hx, hb, -⟩, -⟩ := X
  have e0 : ∀ z : Int, -2147483648 ≤ z → z ≤ 2147483647 → (Int32.ofInt z).toInt = z := by
    intro z h1 h2
    rw [Int32.toInt_ofInt, show Int32.size = 2 ^ 32 from rfl, ax_bmod h1 h2]
  unfold ax_sw at h
  split at h
  · split at h
    · rename_i l t hs ht
      cases h
      intro cv cs ws tys ls H locs M hls hK hP hD hS
      obtain ⟨v1, cr, rfl, e1, e2⟩ := ax_popk M.2.2.1
      obtain ⟨x, rfl, e5⟩ := ax_ok_i e1.1
      by_cases c1 : x.toInt < lo
      · refine lv_tableOut hx hb hd (Or.inl c1) (ax_tgt_ok ht) ?_
        exact ax_br_ok (y := Int32.ofInt lo) (ob := none) (ib := (lo, lo)) e5.1 (by rw [e0 lo hlo.1 hlo.2.1]; exact ⟨Int.le_refl _, Int.le_refl _⟩) e1.2 trivial (by rw [e0 lo hlo.1 hlo.2.1]; exact c1) (fun S hS => hG S (List.mem_append_right _ (List.mem_append_left _ hS))) ⟨M.1, M.2.1, e2, M.2.2.2⟩ hls hK hP hD hS
      · by_cases c2 : hi < x.toInt
        · refine lv_tableOut hx hb hd (Or.inr c2) (ax_tgt_ok ht) ?_
          exact ax_br_ok (y := Int32.ofInt hi) (ob := none) (ib := (hi, hi)) e5.1 (by rw [e0 hi hlo.2.2.1 hlo.2.2.2]; exact ⟨Int.le_refl _, Int.le_refl _⟩) e1.2 trivial (by rw [e0 hi hlo.2.2.1 hlo.2.2.2]; exact c2) (fun S hS => hG S (List.mem_append_right _ (List.mem_append_right _ hS))) ⟨M.1, M.2.1, e2, M.2.2.2⟩ hls hK hP hD hS
        · obtain ⟨off, t2, k1, k2, k3⟩ := ax_sws_ok hs (x.toInt - lo).toNat (Nat.zero_le _) (by omega)
          refine lv_tableIn hx hb hd c1 c2 (by rw [← Array.getElem?_toList]; exact k1) (ax_tgt_ok k2) ?_
          have e3 : lo + ((x.toInt - lo).toNat : Int) = x.toInt := by omega
          rw [e3] at k3
          exact ax_br_ok (y := x) (ob := none) (ib := (x.toInt, x.toInt)) e5.1 ⟨Int.le_refl _, Int.le_refl _⟩ e1.2 trivial (k := 0) rfl (fun S hS => hG S (List.mem_append_left _ (k3 S hS))) ⟨M.1, M.2.1, e2, M.2.2.2⟩ hls hK hP hD hS
    · cases h
  · cases h
end AXS2
